/-! keep, on -/
def cpc (t s j n : Nat) (M : jM) : jM := jcp M (gi M (s + j)) 0 (t + j) 0 n
def cpf (t s k : Nat) (M : jM) : jM := si M t k (gi M s k)
def bcm (t s : Nat) (M : jM) : jM := cpf t s 11 (cpf t s 10 (cpf t s 9 (cpf t s 8 (cpf t s 7 (cpf t s 6 (cpc t s 5 7 (cpc t s 4 40 (cpc t s 3 40 (cpc t s 2 40 (cpc t s 1 3 M))))))))))
section JM
variable {q c : Nat → Nat → Nat} {M N Mx Mm Nx Nm : jM} {t s : Nat}
theorem gi_cpc (t s j n a k : Nat) : gi (cpc t s j n M) a k = if a = t + j ∧ k < n then gi M (s + j) k else gi M a k := by
  unfold cpc
  rw [gi_jcp, Nat.zero_add, Nat.zero_add, Nat.sub_zero]
  by_cases e : a = t + j ∧ k < n
  · rw [if_pos ⟨e.1, Nat.zero_le _, e.2⟩, if_pos e]
  · rw [if_neg (fun w => e ⟨w.1, w.2.2⟩), if_neg e]
theorem gi_cpf (t s j a k : Nat) : gi (cpf t s j M) a k = if a = t ∧ k = j then gi M s j else gi M a k := rfl
theorem gl_bcm (a k : Nat) : gl (bcm t s M) a k = gl M a k := rfl
theorem bcm_fr (a k : Nat) (h : a < t ∨ t + 6 ≤ a) : gi (bcm t s M) a k = gi M a k := by
  unfold bcm
  simp only [gi_cpf, gi_cpc]
  repeat rw [if_neg (by omega)]
theorem bcm_f (hap : t + 6 ≤ s ∨ s + 6 ≤ t) (k : Nat) (h1 : 6 ≤ k) (h2 : k ≤ 11) : gi (bcm t s M) t k = gi M s k := by
  unfold bcm
  rcases (show k = 6 ∨ k = 7 ∨ k = 8 ∨ k = 9 ∨ k = 10 ∨ k = 11 by omega) with rfl | rfl | rfl | rfl | rfl | rfl <;>
  · skip
    repeat (first | rw [gi_cpf, if_pos (by omega)] | rw [gi_cpf, if_neg (by omega)] | rw [gi_cpc, if_pos (by omega)] | rw [gi_cpc, if_neg (by omega)])
theorem bcm_c (hap : t + 6 ≤ s ∨ s + 6 ≤ t) {j k n : Nat} (h : j = 1 ∧ n = 3 ∨ j = 2 ∧ n = 40 ∨ j = 3 ∧ n = 40 ∨ j = 4 ∧ n = 40 ∨ j = 5 ∧ n = 7) (hk : k < n) : gi (bcm t s M) (t + j) k = gi M (s + j) k := by
  unfold bcm
  rcases h with ⟨rfl, rfl⟩ | ⟨rfl, rfl⟩ | ⟨rfl, rfl⟩ | ⟨rfl, rfl⟩ | ⟨rfl, rfl⟩ <;>
  · skip
    repeat (first | rw [gi_cpf, if_pos (by omega)] | rw [gi_cpf, if_neg (by omega)] | rw [gi_cpc, if_pos (by omega)] | rw [gi_cpc, if_neg (by omega)])
theorem cX_bcm (hap : t + 6 ≤ s ∨ s + 6 ≤ t) (hc : c 1 0 ≤ 40) (h : cX s q c M) : cX t q c (bcm t s M) := by
  obtain ⟨h1, h2, h3, h4, h5⟩ := h
  refine ⟨?_, fun j hj => ?_, fun k hk => ?_, fun z hz => ?_, fun k hk => ?_⟩
  · rw [bcm_f hap 6 (by omega) (by omega)]; exact h1
  · rw [bcm_f hap (7 + j) (by omega) (by omega)]; exact h2 j hj
  · rw [bcm_c hap (j := 1) (n := 3) (by omega) hk]; exact h3 k hk
  · rw [bcm_c hap (j := 2) (n := 40) (by omega) (by omega), bcm_c hap (j := 3) (n := 40) (by omega) (by omega), bcm_c hap (j := 4) (n := 40) (by omega) (by omega)]; exact h4 z hz
  · rw [bcm_c hap (j := 5) (n := 7) (by omega) hk]; exact h5 k hk
theorem bcm_st {j r : Nat} (hr : ∀ a, t ≤ a → a < t + 6 → rgX a = r) (hj : j ≠ r) : stX j M (bcm t s M) := fun a k ha => by
  refine ⟨?_, rfl⟩
  by_cases e : t ≤ a ∧ a < t + 6
  · exact absurd (ha.symm.trans (hr a e.1 e.2)) hj
  · exact bcm_fr a k (by omega)
theorem rg46' {k : Nat} (hk : k < 3) : ∀ a, 46 + 6 * k ≤ a → a < 46 + 6 * k + 6 → rgX a = 5 := fun a h1 h2 => by
  have := rg46 k hk (a - (46 + 6 * k)) (by omega)
  rw [show 46 + 6 * k + (a - (46 + 6 * k)) = a by omega] at this; exact this
theorem rg39' : ∀ a, 39 ≤ a → a < 39 + 6 → rgX a = 4 := fun a h1 h2 => by
  have := rg39 (a - 39) (by omega)
  rw [show 39 + (a - 39) = a by omega] at this; exact this
theorem x_keepB {k : Nat} (hk : k < 3) (hd : ¬ gi M 29 0 = 0) : f_X5_keep (nI k) M = some (gi M 39 6, si (bcm (46 + 6 * k) 39 M) 64 k 1) := by
  unfold f_X5_keep
  rw [if_neg (nI_pos (by omega)), if_pos (show nI k < (3 : Int32) from nI_lt (b := 3) hk (by decide)), if_neg hd, jg_t (jin_nI hk (by decide))]
  rcases (show k = 0 ∨ k = 1 ∨ k = 2 by omega) with rfl | rfl | rfl <;> rfl
theorem x_onB {k : Nat} (hk : k < 3) (hd : ¬ gi M 64 k = 0) : f_X5_on (nI k) M = some (gi M (46 + 6 * k) 6, bcm 39 (46 + 6 * k) M) := by
  unfold f_X5_on
  rw [if_neg (nI_pos (by omega)), if_pos (show nI k < (3 : Int32) from nI_lt (b := 3) hk (by decide)), jg_t (jin_nI hk (by decide)), nI_clamp (show k < 2 ^ 31 by omega), if_neg hd, jg_t (jin_nI hk (by decide))]
  rcases (show k = 0 ∨ k = 1 ∨ k = 2 by omega) with rfl | rfl | rfl <;> rfl
theorem m_carry {o1 n1 o3 n3 x y n : Nat} (hne : o3 ≠ o1) (h1 : x + n ≤ n1) (h3 : y + n ≤ n3) (hn1 : n1 < 20000) (hn3 : n3 < 20000) : f_X6_carry o1 n1 (nI x) o3 n3 (nI y) (nI n) M = some (jcp M (gi M o3) y o1 x n) := by
  have hl : f_X6_carry_L3 o1 n1 o3 n3 jfu (nI x) (nI y) (nI n) 0 M = some (nI n, jcp M (gi M o3) y o1 x n) := by
    have e := jloop0 (L := fun m (z : Int32 × jM) => f_X6_carry_L3 o1 n1 o3 n3 m (nI x) (nI y) (nI n) z.1 z.2) (S := fun z => (nI z, jcp M (gi M o3) y o1 x z)) (r := (nI n, jcp M (gi M o3) y o1 x n)) (n := n) (by unfold jfu; omega) ?_ ?_
    · rw [jcp_0] at e; exact e
    · intro m z hz
      show f_X6_carry_L3_b o1 n1 o3 n3 (f_X6_carry_L3 o1 n1 o3 n3 m) (nI x) (nI y) (nI n) (nI z) _ = f_X6_carry_L3 o1 n1 o3 n3 m (nI x) (nI y) (nI n) (nI (z + 1)) _
      unfold f_X6_carry_L3_b
      have e2 : gi (jcp M (gi M o3) y o1 x z) o3 (y + z) = gi M o3 (y + z) := by rw [gi_jcp, if_neg (fun w => hne w.1)]
      dsimp only
      rw [if_neg (nI_ge hz (by omega)), nI_add, nI_add, jg_t (jin_nI (show y + z < n3 by omega) (by omega)), jg_t (jin_nI (show x + z < n1 by omega) (by omega)), nI_clamp (show y + z < 2 ^ 31 by omega), nI_clamp (show x + z < 2 ^ 31 by omega), e2, jcp_step, jlet_e, jlet_e, nI_1]
    · intro m
      show f_X6_carry_L3_b o1 n1 o3 n3 (f_X6_carry_L3 o1 n1 o3 n3 m) (nI x) (nI y) (nI n) (nI n) _ = _
      unfold f_X6_carry_L3_b
      rw [if_pos (nI_le (Nat.le_refl _) (by omega))]
  unfold f_X6_carry
  rw [hl]; rfl
theorem vnb1 : vp_nar .boolean (1 : Int32) = 1 := rfl
theorem vnb0 : vp_nar .boolean (0 : Int32) = 0 := rfl
def mkp (k : Nat) (M : jM) : jM := si (si (jcp (jcp (jcp M (gi M 13) 0 19 (496 * k) 480) (gi M 12) 0 19 (496 * k + 480) 12) (gi M 11) 0 19 (496 * k + 492) 3) 19 (496 * k + 495) (gi M 0 15)) 18 k 1
def mon (k : Nat) (M : jM) : jM := si (jcp (jcp (jcp M (gi M 19) (496 * k) 13 0 480) (gi M 19) (496 * k + 480) 12 0 12) (gi M 19) (496 * k + 492) 11 0 3) 0 15 (gi M 19 (496 * k + 495))
theorem jcp_cg {f g : Nat → Int32} {sp b dp n : Nat} (h : ∀ k, f k = g k) : jcp M f sp b dp n = jcp M g sp b dp n := by rw [funext h]
theorem m_keepB {k : Nat} (hk : k < 3) (hd : ¬ gi M 0 7 = 0) : f_X6_keep (nI k) M = some (gi M 0 15, mkp k M) := by
  unfold f_X6_keep
  have a0 := e496 k 0
  rw [show nI 0 = (0 : Int32) from rfl, Int32.add_zero, Nat.add_zero] at a0
  have a1 : (496 : Int32) * nI k + (480 : Int32) = nI (496 * k + 480) := e496 k 480
  have a2 : (496 : Int32) * nI k + (492 : Int32) = nI (496 * k + 492) := e496 k 492
  have a3 : (496 : Int32) * nI k + (495 : Int32) = nI (496 * k + 495) := e496 k 495
  rw [m_in0_t (hi := 2) (j := k) (n := 2) rfl (by omega) (by decide), jb1_e, if_neg j10, if_neg hd, a1, a2, a3, a0]
  rw [show (0 : Int32) = nI 0 from rfl, show (480 : Int32) = nI 480 from rfl, show (12 : Int32) = nI 12 from rfl, show (3 : Int32) = nI 3 from rfl]
  rw [m_carry (by decide) (by omega) (by decide) (by decide) (by decide), jb1_e, m_carry (by decide) (by omega) (by decide) (by decide) (by decide), jb1_e, m_carry (by decide) (by omega) (by decide) (by decide) (by decide), jb1_e, jg_t (jin_nI (show 496 * k + 495 < 1488 by omega) (by decide)), jlet_e, jg_t (jin_nI hk (by decide)), jlet_e, nI_clamp (show k < 2 ^ 31 by omega), nI_clamp (show 496 * k + 495 < 2 ^ 31 by omega)]
  rfl
theorem m_onB {k : Nat} (hk : k < 3) (hd : ¬ gi M 18 k = 0) : f_X6_on (nI k) M = some (gi M 19 (496 * k + 495), mon k M) := by
  unfold f_X6_on
  have a0 := e496 k 0
  rw [show nI 0 = (0 : Int32) from rfl, Int32.add_zero, Nat.add_zero] at a0
  have a1 : (496 : Int32) * nI k + (480 : Int32) = nI (496 * k + 480) := e496 k 480
  have a2 : (496 : Int32) * nI k + (492 : Int32) = nI (496 * k + 492) := e496 k 492
  have a3 : (496 : Int32) * nI k + (495 : Int32) = nI (496 * k + 495) := e496 k 495
  rw [m_in0_t (hi := 2) (j := k) (n := 2) rfl (by omega) (by decide), jb1_e, if_neg j10, jg_t (jin_nI hk (by decide)), nI_clamp (show k < 2 ^ 31 by omega), if_neg hd, a1, a2, a3, a0]
  rw [show (0 : Int32) = nI 0 from rfl, show (480 : Int32) = nI 480 from rfl, show (12 : Int32) = nI 12 from rfl, show (3 : Int32) = nI 3 from rfl]
  rw [m_carry (by decide) (by decide) (by omega) (by decide) (by decide), jb1_e, m_carry (by decide) (by decide) (by omega) (by decide) (by decide), jb1_e, m_carry (by decide) (by decide) (by omega) (by decide) (by decide), jb1_e, jg_t (jin_nI (show 496 * k + 495 < 1488 by omega) (by decide)), jlet_e, nI_clamp (show 496 * k + 495 < 2 ^ 31 by omega)]
  rfl
theorem mkp_19 {k : Nat} (z : Nat) : gi (mkp k M) 19 z = if z = 496 * k + 495 then gi M 0 15 else if 496 * k + 492 ≤ z ∧ z < 496 * k + 495 then gi M 11 (z - (496 * k + 492)) else if 496 * k + 480 ≤ z ∧ z < 496 * k + 492 then gi M 12 (z - (496 * k + 480)) else if 496 * k ≤ z ∧ z < 496 * k + 480 then gi M 13 (z - 496 * k) else gi M 19 z := by
  unfold mkp
  rw [gi_si, if_neg (by omega), gi_si]
  by_cases e1 : z = 496 * k + 495
  · rw [if_pos ⟨rfl, e1⟩, if_pos e1]
  · rw [if_neg (fun w => e1 w.2), if_neg e1, gi_jcp]
    by_cases e2 : 496 * k + 492 ≤ z ∧ z < 496 * k + 495
    · rw [if_pos ⟨rfl, by omega⟩, if_pos e2, Nat.zero_add]
    · rw [if_neg (by omega), if_neg e2, gi_jcp]
      by_cases e3 : 496 * k + 480 ≤ z ∧ z < 496 * k + 492
      · rw [if_pos ⟨rfl, by omega⟩, if_pos e3, Nat.zero_add]
      · rw [if_neg (by omega), if_neg e3, gi_jcp]
        by_cases e4 : 496 * k ≤ z ∧ z < 496 * k + 480
        · rw [if_pos ⟨rfl, by omega⟩, if_pos e4, Nat.zero_add]
        · rw [if_neg (by omega), if_neg e4]
theorem cK_eq {k : Nat} (hc : c 1 0 ≤ 40) (h : ∀ j, j < 496 → gi N 19 (496 * k + j) = gi M 19 (496 * k + j)) (hk : cK k q c M) : cK k q c N := by
  obtain ⟨h1, h2, h3, h4⟩ := hk
  refine ⟨?_, fun j hj => ?_, fun z hz j hj => ?_, fun j hj => ?_⟩
  · rw [h 495 (by decide)]; exact h1
  · intro hv
    show gi N 19 (496 * k + 480 + j) = _
    rw [Nat.add_assoc, h (480 + j) (by omega), ← Nat.add_assoc]; exact h2 j hj hv
  · show gi N 19 (496 * k + (12 * z + j)) = _
    rw [h (12 * z + j) (by omega)]; exact h3 z hz j hj
  · show gi N 19 (496 * k + 492 + j) = _
    rw [Nat.add_assoc, h (492 + j) (by omega), ← Nat.add_assoc]; exact h4 j hj
theorem cK_mkp {k : Nat} (hc : c 1 0 ≤ 40) (h : cM q c M) : cK k q c (mkp k M) := by
  obtain ⟨h1, h2, h3, h4⟩ := h
  refine ⟨?_, fun j hj => ?_, fun z hz j hj => ?_, fun j hj => ?_⟩
  · rw [mkp_19, if_pos rfl]; exact h1
  · intro hv
    show gi (mkp k M) 19 (496 * k + 480 + j) = _
    rw [mkp_19, if_neg (by omega), if_neg (by omega), if_pos (by omega), show 496 * k + 480 + j - (496 * k + 480) = j by omega]; exact h2 j hj hv
  · show gi (mkp k M) 19 (496 * k + (12 * z + j)) = _
    rw [mkp_19, if_neg (by omega), if_neg (by omega), if_neg (by omega), if_pos (by omega), show 496 * k + (12 * z + j) - 496 * k = 12 * z + j by omega]; exact h3 z hz j hj
  · show gi (mkp k M) 19 (496 * k + 492 + j) = _
    rw [mkp_19, if_neg (by omega), if_pos (by omega), show 496 * k + 492 + j - (496 * k + 492) = j by omega]; exact h4 j hj
theorem cM_mon {k : Nat} (hc : c 1 0 ≤ 40) (h : cK k q c M) : cM q c (mon k M) := by
  obtain ⟨h1, h2, h3, h4⟩ := h
  unfold mon
  refine ⟨?_, fun j hj => ?_, fun z hz j hj => ?_, fun j hj => ?_⟩
  · rw [gi_si, if_pos ⟨rfl, rfl⟩]; exact h1
  · rw [gi_si, if_neg (by omega), gi_jcp, if_neg (by omega), gi_jcp, if_pos ⟨rfl, by omega⟩, Nat.sub_zero]; exact h2 j hj
  · rw [gi_si, if_neg (by omega), gi_jcp, if_neg (by omega), gi_jcp, if_neg (by omega), gi_jcp, if_pos ⟨rfl, by omega⟩, Nat.sub_zero]; exact h3 z hz j hj
  · rw [gi_si, if_neg (by omega), gi_jcp, if_pos ⟨rfl, by omega⟩, Nat.sub_zero]; exact h4 j hj
theorem mkp_st {k j : Nat} (hj : j ≠ 5) : stM j M (mkp k M) := by
  unfold mkp
  have w : ∀ k, rgM 19 k ≠ j := fun _ w => hj (w.symm.trans rfl)
  exact stM_tr (stM_jcp w) (stM_tr (stM_jcp w) (stM_tr (stM_jcp w) (stM_tr (stM_si (w _)) (stM_si (fun w => hj (w.symm.trans rfl))))))
theorem mon_st {k j : Nat} (hj : j ≠ 4) : stM j M (mon k M) := by
  unfold mon
  exact stM_tr (stM_jcp (fun _ w => hj (w.symm.trans rfl))) (stM_tr (stM_jcp (fun _ w => hj (w.symm.trans rfl))) (stM_tr (stM_jcp (fun _ w => hj (w.symm.trans rfl))) (stM_si (fun w => hj (w.symm.trans rfl)))))
theorem j2 {a : Int32} (h : a < 0 ∨ nI 3 ≤ a) : a < 0 ∨ (¬ a < 0 ∧ ¬ a < 3) := by
  by_cases h1 : a < 0
  · exact Or.inl h1
  · exact Or.inr ⟨h1, Int32.not_lt.mpr (h.resolve_left h1)⟩
theorem s_keep : kS_keep (Rl Q1) := by
  intro a1 Mx Mm R
  obtain ⟨q, c, H⟩ := R.2.2.2
  have b := vbd H.1 H.2.2.2.1
  rcases jcase a1 3 (by decide) with w | ⟨k, hk, rfl⟩
  · unfold f_X5_keep f_X6_keep
    rw [m_in0_f (hi := 2) (n := 2) rfl w (by decide), jb1_e, if_pos j00]
    rcases j2 w with w | ⟨w1, w2⟩
    · rw [if_pos w]; exact ⟨_, Mx, Mm, rfl, rfl, R⟩
    · rw [if_neg w1, if_neg w2]; exact ⟨_, Mx, Mm, rfl, rfl, R⟩
  · by_cases e : q 0 0 = 0
    · unfold f_X5_keep f_X6_keep
      rw [m_in0_t (hi := 2) (j := k) (n := 2) rfl (by omega) (by decide), jb1_e, if_neg j10, if_neg (nI_pos (by omega)), if_pos (show nI k < (3 : Int32) from nI_lt (b := 3) hk (by decide)), H.2.1.1, H.2.2.1.1, jd0 H.1, jd0 H.1, if_pos e, if_pos e]
      exact ⟨_, Mx, Mm, rfl, rfl, R⟩
    · rw [x_keepB hk (by rw [H.2.1.1]; exact nI_ne0 (by omega) (by omega)), m_keepB hk (by rw [H.2.2.1.1]; exact nI_ne0 (by omega) (by omega)), x6 (H_cx H), m15 (H_cm H)]
      have sx : ∀ j, j ≠ 5 → stX j Mx (si (bcm (46 + 6 * k) 39 Mx) 64 k 1) := fun j hj => stX_tr (bcm_st (rg46' hk) hj) (stX_si (fun w => hj (w.symm.trans rfl)))
      refine ⟨_, _, _, rfl, rfl, rl_cour R (fun j hj => sx j (by omega)) (fun j hj => mkp_st (by omega)) ⟨q, c, H.1, hX_st (sx 3 (by decide)) H.2.1, hM_st (mkp_st (by decide)) H.2.2.1, H.2.2.2.1, cX_st (sx 4 (by decide)) H.2.2.2.2.1, cM_st (mkp_st (by decide)) H.2.2.2.2.2.1, fun z hz => ?_⟩⟩
      unfold kp
      by_cases ez : z = k
      · subst ez
        refine Or.inr ⟨?_, ?_, c, H.2.2.2.1, ?_, cK_mkp b.2.2.2.2.2.2.2 H.2.2.2.2.2.1⟩
        · rw [gi_si, if_pos ⟨rfl, rfl⟩]
        · unfold mkp; rw [gi_si, if_pos ⟨rfl, rfl⟩]
        · refine cX_eq (fun j y hj => ?_) (cX_bcm (M := Mx) (t := 46 + 6 * z) (s := 39) (by omega) b.2.2.2.2.2.2.2 H.2.2.2.2.1)
          rw [gi_si, if_neg (by omega)]
      · have e1 : gi (si (bcm (46 + 6 * k) 39 Mx) 64 k 1) 64 z = gi Mx 64 z := by
          rw [gi_si, if_neg (by omega), bcm_fr _ _ (by omega)]
        have e2 : gi (mkp k Mm) 18 z = gi Mm 18 z := by
          unfold mkp
          rw [gi_si, if_neg (by omega), gi_si, if_neg (by omega), gi_jcp, if_neg (by omega), gi_jcp, if_neg (by omega), gi_jcp, if_neg (by omega)]
        rw [e1, e2]
        rcases H.2.2.2.2.2.2 z hz with h | ⟨h1, h2, d, h3, h4, h5⟩
        · exact Or.inl h
        · refine Or.inr ⟨h1, h2, d, h3, cX_eq (fun j y hj => ?_) h4, cK_eq h3.1 (fun j hj => ?_) h5⟩
          · rw [gi_si, if_neg (by omega), bcm_fr _ _ (by omega)]
          · rw [mkp_19, if_neg (by omega), if_neg (by omega), if_neg (by omega), if_neg (by omega)]
theorem s_on : kS_on (Rl Q1) := by
  intro a1 Mx Mm R
  obtain ⟨q, c, H⟩ := R.2.2.2
  rcases jcase a1 3 (by decide) with w | ⟨k, hk, rfl⟩
  · unfold f_X5_on f_X6_on
    rw [m_in0_f (hi := 2) (n := 2) rfl w (by decide), jb1_e, if_pos j00]
    rcases j2 w with w | ⟨w1, w2⟩
    · rw [if_pos w]; exact ⟨_, Mx, Mm, rfl, rfl, R⟩
    · rw [if_neg w1, if_neg w2]; exact ⟨_, Mx, Mm, rfl, rfl, R⟩
  · rcases H.2.2.2.2.2.2 k hk with ⟨h1, h2⟩ | ⟨h1, h2, d, h3, h4, h5⟩
    · unfold f_X5_on f_X6_on
      rw [m_in0_t (hi := 2) (j := k) (n := 2) rfl (by omega) (by decide), jb1_e, if_neg j10, if_neg (nI_pos (by omega)), if_pos (show nI k < (3 : Int32) from nI_lt (b := 3) hk (by decide)), jg_t (jin_nI hk (by decide)), jg_t (jin_nI hk (by decide)), jg_t (jin_nI hk (by decide)), nI_clamp (show k < 2 ^ 31 by omega), h1, h2, if_pos j00, if_pos j00, show (1 : Int32) = nI 1 from rfl, x_find (by decide), m_find (by decide)]
      exact ⟨_, _, _, rfl, rfl, rl_find Q1_stay R (by decide)⟩
    · have e1 : gi Mx (46 + 6 * k) 6 = nI (d 1 0) := h4.1
      have e2 : gi Mm 19 (496 * k + 495) = nI (d 1 0) := h5.1
      rw [x_onB hk (by rw [h1]; exact j10), m_onB hk (by rw [h2]; exact j10), e1, e2]
      have sx : ∀ j, j ≠ 4 → stX j Mx (bcm 39 (46 + 6 * k) Mx) := fun j hj => bcm_st rg39' hj
      exact ⟨_, _, _, rfl, rfl, rl_cour R (fun j hj => sx j (by omega)) (fun j hj => mon_st (by omega)) ⟨q, d, H.1, hX_st (sx 3 (by decide)) H.2.1, hM_st (mon_st (by decide)) H.2.2.1, h3, cX_bcm (by omega) h3.1 h4, cM_mon h3.1 h5, fun z hz => kp_st (sx 5 (by decide)) (mon_st (by decide)) hz (H.2.2.2.2.2.2 z hz)⟩⟩
end JM
