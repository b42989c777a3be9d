/-! orders: the order written out on both sides -/
noncomputable def bt (q : Nat → Nat → Nat) (P i x k h e : Nat) : Bool := ldx q P x h e && cd (pth q P i k (bhx q x h e))
section KB
variable {q c : Nat → Nat → Nat} {M N K Mx Mm Nx Nm : jM} {P i : Nat}
theorem tm_dI {e : Nat} (he : e ≤ 6) : (if 0 ≤ tm e then tm e else (-9 : Int32)) = dI e := by
  cases e with
  | zero => rfl
  | succ j => rw [tmS, if_pos (nI_pos' (by omega))]; rfl
theorem tm_ge {e n : Nat} (he : e ≤ n) (hn : n < 100) : ¬ nI n ≤ tm e := by
  cases e with
  | zero => rw [tm0]; exact fun w => by
              rw [Int32.le_iff_toInt_le, nI_toInt (by omega)] at w
              have : (-1 : Int32).toInt = -1 := rfl
              omega
  | succ i => rw [tmS]; exact nI_ge (by omega) (by omega)
theorem fts_ldx {S g d h e : Nat} (hP : P < 128) (hS : S < 128) (hd : d < 64) (hg : g < 3) : fts q P S g d h e = ldx q P (cs S d g) h e := by
  obtain ⟨c1, c2, c3, c4⟩ := cs_d hS hd hg
  unfold fts ldx
  rw [c1, c2, c3, dif_bit hP, Bool.and_assoc]
/-- the class's test of a pair is the reference's -/
theorem bt_x (hq : okP q) {s n S g d h e : Nat} (hS : S < 128) (hd : d < 64) (hg : g < 3) (hK : wK q P i s n 0 M) (hc : clo (Eg q P) s (cs S d g)) (hpn : pc S + 1 ≤ n) (hh : h < q 0 1) (he : e ≤ q 0 0) (hl : ldx q P (cs S d g) h e = true) : Lb (gl M 67 ((S ||| 2 ^ h) * 3 + gpb q g e)) (d ||| dbt e) ↔ pth q P i (n - (pc S + 1)) (bhx q (cs S d g) h e) := by
  have h7 := hq.2.1
  obtain ⟨c1, c2, c3, c4⟩ := cs_d hS hd hg
  obtain ⟨d1, d2, d3, d4⟩ := bhx_d hq c4 hh he
  rw [c1] at d1; rw [c2] at d2; rw [c3] at d3
  have l2 := (ldx_b hl).2.1
  rw [c1] at l2
  have hp1 := pc_or S hS h (by omega) l2
  have h128 := jor7 (a := S) (h := h) hS (by omega)
  have hE : Eg q P (cs S d g) (bhx q (cs S d g) h e) := ⟨h, e, hh, he, hl, rfl⟩
  have hy := cs_x (bhx q (cs S d g) h e)
  rw [d1, d2, d3] at hy
  have hk := hK (S ||| 2 ^ h) (gpb q g e) (Nat.zero_le _) h128 (by have := gpb_le (q := q) g e; omega) (d ||| dbt e) (dbt_or hd (by have := hq.1; omega)) (by rw [hy]; exact clo_e hc hE) (by omega)
  rw [hy, hp1] at hk
  exact hk
theorem bt_m (hq : okP q) {x r h e : Nat} (hx : x < 24576) (hN : nK q P i 0 M) (hn : isN q P i x (r + 1)) (hr : r < 20) (hh : h < q 0 1) (he : e ≤ q 0 0) (hl : ldx q P x h e = true) : gi M 21 (bhx q x h e) = nI r ↔ pth q P i r (bhx q x h e) := by
  have hE : Eg q P x (bhx q x h e) := ⟨h, e, hh, he, hl, rfl⟩
  obtain ⟨d1, d2, d3, d4⟩ := bhx_d hq hx hh he
  obtain ⟨v, v1, v2⟩ := hN (bhx q x h e) (Nat.zero_le _) d4
  have vb := isN_bd hq d4 v2
  rw [v1, nI_eq (by omega) (by omega)]
  have no : ∀ m, pth q P i m (bhx q x h e) → r ≤ m := by
    intro m hm
    rcases hn with ⟨_, _, h3⟩ | ⟨h3, _⟩
    · rcases Nat.lt_or_ge m r with w | w
      · exact absurd ⟨_, hE, hm⟩ (h3 (m + 1) (by omega))
      · exact w
    · omega
  constructor
  · rintro rfl
    rcases v2 with ⟨_, h2, _⟩ | ⟨h2, _⟩
    · exact h2
    · omega
  · intro hp
    rcases v2 with ⟨_, h2, h3⟩ | ⟨_, h3⟩
    · have := no v h2
      rcases Nat.lt_or_ge r v with w | w
      · exact absurd hp (h3 r w)
      · omega
    · exact absurd hp (h3 r)
/-- both stand at x = (S, d, g), r + 1 pairs to go -/
def wI (q : Nat → Nat → Nat) (P i s n j S g d r p : Nat) (Mx Mm : jM) : Prop := P < 128 ∧ S < 128 ∧ d < 64 ∧ g < 3 ∧ n ≤ 7 ∧ j < 6 ∧ pc S = p ∧ p + r = n ∧ hX q Mx ∧ ord P S g d Mx ∧ wK q P i s n 0 Mx ∧ clo (Eg q P) s (cs S d g) ∧ isN q P i (cs S d g) r ∧ hM q Mm ∧ nK q P i 0 Mm
theorem wf_e (hq : okP q) {s n j S g d r p h : Nat} (I : wI q P i s n j S g d (r + 1) p Mx Mm) (hh : h < q 0 1) : ∀ (t e m : Nat), e + t = q 0 0 + 1 → t < m → (∃ e', e' ≤ q 0 0 ∧ bt q P i (cs S d g) r h e' = true ∧ ∃ Nx z, f_X1_writeFirstPair_L16 (4 + j) 40 m (nI (2 * p)) (nI h) (tm e) Mx = some (.inl Nx) ∧ f_X1_live (nI h) (dI e') (si (si Mx (4 + j) (2 * p) (nI h)) (4 + j) (2 * p + 1) (dI e')) = some Nx ∧ f_X6_order_L106 m (nI j) (nI P) (nI (cs S d g)) (nI p) 1 (nI (cs S d g)) (nI h) (tm e) Mm = some (nI (bhx q (cs S d g) h e'), 0, z, si (si Mm 2 (40 * j + 2 * p) (nI h)) 2 (40 * j + (2 * p + 1)) (dI e'))) ∨ ((∀ e', e ≤ e' → e' ≤ q 0 0 → bt q P i (cs S d g) r h e' = false) ∧ f_X1_writeFirstPair_L16 (4 + j) 40 m (nI (2 * p)) (nI h) (tm e) Mx = some (.inr (nI (q 0 0), Mx)) ∧ f_X6_order_L106 m (nI j) (nI P) (nI (cs S d g)) (nI p) 1 (nI (cs S d g)) (nI h) (tm e) Mm = some (nI (cs S d g), 1, nI (q 0 0), Mm))
  | 0, e, m, he, hm => by
    obtain ⟨m', rfl⟩ : ∃ m', m = m' + 1 := ⟨m - 1, by omega⟩
    obtain ⟨hP, hS, hd, hg, hn, hj, hp, hpr, hx, ho, hK, hc, hI, hmm, hN⟩ := I
    have h6 := hq.1
    have e1 : e = q 0 0 + 1 := by omega
    subst e1
    refine Or.inr ⟨fun e' a1 a2 => by omega, ?_, ?_⟩
    · show f_X1_writeFirstPair_L16_b (4 + j) 40 (f_X1_writeFirstPair_L16 (4 + j) 40 m') _ _ _ Mx = _
      unfold f_X1_writeFirstPair_L16_b
      rw [tmS, hx.1, if_pos (nI_le (Nat.le_refl _) (by omega))]
    · show f_X6_order_L106_b (f_X6_order_L106 m') _ _ _ _ _ _ _ _ Mm = _
      unfold f_X6_order_L106_b
      rw [tmS, hmm.1, if_pos (nI_le (Nat.le_refl _) (by omega))]
  | t + 1, e, m, he, hm => by
    obtain ⟨m', rfl⟩ : ∃ m', m = m' + 1 := ⟨m - 1, by omega⟩
    have ih := wf_e hq I hh t (e + 1) m' (by omega) (by omega)
    obtain ⟨hP, hS, hd, hg, hn, hj, hp, hpr, hx, ho, hK, hc, hI, hmm, hN⟩ := I
    have h6 := hq.1
    have h7 := hq.2.1
    obtain ⟨c1, c2, c3, c4⟩ := cs_d hS hd hg
    obtain ⟨v0, v1, v2⟩ := hN (cs S d g) (Nat.zero_le _) c4
    have v3 : v0 = r + 1 := isN_u v2 hI
    rw [v3] at v1
    have u1 : f_X1_writeFirstPair_L16 (4 + j) 40 (m' + 1) (nI (2 * p)) (nI h) (tm e) Mx = f_X1_writeFirstPair_L16_b (4 + j) 40 (f_X1_writeFirstPair_L16 (4 + j) 40 m') (nI (2 * p)) (nI h) (tm e) Mx := rfl
    have u2 : f_X6_order_L106 (m' + 1) (nI j) (nI P) (nI (cs S d g)) (nI p) 1 (nI (cs S d g)) (nI h) (tm e) Mm = f_X6_order_L106_b (f_X6_order_L106 m') (nI j) (nI P) (nI (cs S d g)) (nI p) 1 (nI (cs S d g)) (nI h) (tm e) Mm := rfl
    rw [u1, u2]
    unfold f_X1_writeFirstPair_L16_b f_X6_order_L106_b
    rw [hx.1, hmm.1, if_neg (tm_ge (show e ≤ q 0 0 by omega) (by omega)), if_neg (tm_ge (show e ≤ q 0 0 by omega) (by omega)), if_neg j10, jlet_e, tm_dI (by omega), x_fits hq hx ho hP hS hd (by omega) hh (by omega), jb1_e, b2_if, fts_ldx hP hS hd hg, m_leads hq hmm hP c4 hh (by omega), jb1_e, b2_if, jlet_e, jlet_e, tm1]
    have fin : bt q P i (cs S d g) r h e = false → (∀ e', e + 1 ≤ e' → e' ≤ q 0 0 → bt q P i (cs S d g) r h e' = false) → ∀ e', e ≤ e' → e' ≤ q 0 0 → bt q P i (cs S d g) r h e' = false := by
      intro w1 w2 e' a1 a2
      by_cases z : e' = e
      · rw [z]; exact w1
      · exact w2 e' (by omega) a2
    cases hl : ldx q P (cs S d g) h e with
    | false =>
      rw [if_neg Bool.false_ne_true, if_neg Bool.false_ne_true, jb3_e, jlet_e]
      have hb : bt q P i (cs S d g) r h e = false := by unfold bt; rw [hl]; rfl
      rcases ih with ih | ⟨i1, i2, i3⟩
      · exact Or.inl ih
      · exact Or.inr ⟨fin hb i1, i2, i3⟩
    | true =>
      obtain ⟨d1, d2, d3, d4⟩ := bhx_d hq c4 hh (show e ≤ q 0 0 by omega)
      have bx := bt_x hq hS hd hg hK hc (by omega) hh (show e ≤ q 0 0 by omega) hl
      rw [show n - (pc S + 1) = r by omega] at bx
      have bm := bt_m hq c4 hN hI (by omega) hh (show e ≤ q 0 0 by omega) hl
      rw [if_pos rfl, if_pos rfl, x_isW hq hx ho hS hd hg hh (by omega), jb1_e, b2_if, m_behind hq hmm c4 hh (by omega), jb1_e, jg_t (jin_nI d4 (by decide)), jg_t (jin_nI c4 (by decide)), nI_clamp (show bhx q (cs S d g) h e < 2 ^ 31 by omega), nI_clamp (show cs S d g < 2 ^ 31 by omega), v1, nI_pred]
      by_cases w : pth q P i r (bhx q (cs S d g) h e)
      · rw [cd_tt (bx.mpr w), if_pos rfl, if_pos (bm.mpr w)]
        left
        refine ⟨e, by omega, by unfold bt; rw [hl, cd_tt w]; rfl, ?_⟩
        have o2 : ord P S g d (si (si Mx (4 + j) (2 * p) (nI h)) (4 + j) (2 * p + 1) (dI e)) := by
          refine ⟨?_, ?_, ?_, ?_⟩
          · rw [gi_si, if_neg (by omega), gi_si, if_neg (by omega)]; exact ho.1
          · rw [gi_si, if_neg (by omega), gi_si, if_neg (by omega)]; exact ho.2.1
          · rw [gi_si, if_neg (by omega), gi_si, if_neg (by omega)]; exact ho.2.2.1
          · rw [gi_si, if_neg (by omega), gi_si, if_neg (by omega)]; exact ho.2.2.2
        have x2 : hX q (si (si Mx (4 + j) (2 * p) (nI h)) (4 + j) (2 * p + 1) (dI e)) := hX_st (stX_tr (stX_si (by rw [rg4 hj]; decide)) (stX_si (by rw [rg4 hj]; decide))) hx
        have m2 : hM q (si (si Mm 2 (40 * j + 2 * p) (nI h)) 2 (40 * j + (2 * p + 1)) (dI e)) := hM_st (stM_tr (stM_si (o := 2) (k := 40 * j + 2 * p) (show (1 : Nat) ≠ 3 by decide)) (stM_si (o := 2) (k := 40 * j + (2 * p + 1)) (show (1 : Nat) ≠ 3 by decide))) hmm
        obtain ⟨Nx, n1, _⟩ := x_live hq x2 o2 (by omega) hh (show e ≤ q 0 0 by omega)
        obtain ⟨m2', hm2⟩ : ∃ m2', m' = m2' + 1 := ⟨m' - 1, by omega⟩
        refine ⟨Nx, tm (e + 1), ?_, n1, ?_⟩
        · rw [nI_1, jg_t (jin_nI (show 2 * p < 40 by omega) (by decide)), jlet_e, jg_t (jin_nI (show 2 * p + 1 < 40 by omega) (by decide)), nI_clamp (show 2 * p < 2 ^ 31 by omega), nI_clamp (show 2 * p + 1 < 2 ^ 31 by omega), n1]; rfl
        · rw [e402, nI_1, jg_t (jin_nI (show 40 * j + 2 * p < 240 by omega) (by decide)), jlet_e, jlet_e, jg_t (jin_nI (show 40 * j + 2 * p + 1 < 240 by omega) (by decide)), nI_clamp (show 40 * j + 2 * p < 2 ^ 31 by omega), nI_clamp (show 40 * j + 2 * p + 1 < 2 ^ 31 by omega), jlet_e, show 40 * j + 2 * p + 1 = 40 * j + (2 * p + 1) by omega, m_behind hq m2 c4 hh (by omega), jb1_e, jb3_e, jlet_e, hm2]
          show f_X6_order_L106_b (f_X6_order_L106 m2') _ _ _ _ _ _ _ _ _ = _
          unfold f_X6_order_L106_b
          rw [if_pos j00]
          split <;> rfl
      · rw [cd_ff (fun z => w (bx.mp z)), if_neg Bool.false_ne_true, if_neg (fun z => w (bm.mp z)), jb3_e, jlet_e]
        have hb : bt q P i (cs S d g) r h e = false := by unfold bt; rw [cd_ff w]; simp
        rcases ih with ih | ⟨i1, i2, i3⟩
        · exact Or.inl ih
        · exact Or.inr ⟨fin hb i1, i2, i3⟩
theorem wf_h (hq : okP q) {s n j S g d r p : Nat} (I : wI q P i s n j S g d (r + 1) p Mx Mm) : ∀ (t h m : Nat), h + t = q 0 1 → t < m → (∃ h' e', h' < q 0 1 ∧ e' ≤ q 0 0 ∧ bt q P i (cs S d g) r h' e' = true ∧ ∃ Nx z, f_X1_writeFirstPair_L2 (4 + j) 40 m (nI (2 * p)) (nI h) Mx = some (.inl Nx) ∧ f_X1_live (nI h') (dI e') (si (si Mx (4 + j) (2 * p) (nI h')) (4 + j) (2 * p + 1) (dI e')) = some Nx ∧ f_X6_order_L89 m (nI j) (nI P) (nI (cs S d g)) (nI p) 1 (nI (cs S d g)) (nI h) Mm = some (nI (bhx q (cs S d g) h' e'), 0, z, si (si Mm 2 (40 * j + 2 * p) (nI h')) 2 (40 * j + (2 * p + 1)) (dI e'))) ∨ (∀ h' e', h ≤ h' → h' < q 0 1 → e' ≤ q 0 0 → bt q P i (cs S d g) r h' e' = false)
  | 0, h, m, he, hm => Or.inr (fun h' e' a1 a2 => by omega)
  | t + 1, h, m, he, hm => by
    obtain ⟨m', rfl⟩ : ∃ m', m = m' + 1 := ⟨m - 1, by omega⟩
    have ih := wf_h hq I t (h + 1) m' (by omega) (by omega)
    have hh : h < q 0 1 := by omega
    have h6 := hq.1
    have h7 := hq.2.1
    have le := wf_e hq I hh (q 0 0 + 1) 0 jfu (by omega) (by unfold jfu; omega)
    rw [tm0] at le
    obtain ⟨hP, hS, hd, hg, hn, hj, hp, hpr, hx, ho, hK, hc, hI, hmm, hN⟩ := I
    have u1 : f_X1_writeFirstPair_L2 (4 + j) 40 (m' + 1) (nI (2 * p)) (nI h) Mx = f_X1_writeFirstPair_L2_b (4 + j) 40 (f_X1_writeFirstPair_L2 (4 + j) 40 m') (nI (2 * p)) (nI h) Mx := rfl
    have u2 : f_X6_order_L89 (m' + 1) (nI j) (nI P) (nI (cs S d g)) (nI p) 1 (nI (cs S d g)) (nI h) Mm = f_X6_order_L89_b (f_X6_order_L89 m') (nI j) (nI P) (nI (cs S d g)) (nI p) 1 (nI (cs S d g)) (nI h) Mm := rfl
    rw [u1, u2]
    unfold f_X1_writeFirstPair_L2_b f_X6_order_L89_b
    rw [hx.2.1, hmm.2.1, if_neg (nI_ge hh (by omega)), if_neg (nI_ge hh (by omega)), if_neg j10]
    rcases le with ⟨e', l1, l2, Nx, z, l3, l4, l5⟩ | ⟨l1, l2, l3⟩
    · left
      obtain ⟨m2', hm2⟩ : ∃ m2', m' = m2' + 1 := ⟨m' - 1, by omega⟩
      refine ⟨h, e', hh, l1, l2, Nx, nI (h + 1), ?_, l4, ?_⟩
      · rw [l3]; rfl
      · rw [l5, jb4_e, jlet_e, nI_1, hm2]
        show f_X6_order_L89_b (f_X6_order_L89 m2') _ _ _ _ _ _ _ _ = _
        unfold f_X6_order_L89_b
        rw [if_pos j00]
        split <;> rfl
    · rw [l2, l3, jb4_e, jlet_e, nI_1]
      have e2 : ∀ f : Int32 → jM → Option (jM ⊕ (Int32 × jM)), jt2 (some (Sum.inr (nI (q 0 0), Mx))) f = f (nI (q 0 0)) Mx := fun _ => rfl
      rw [e2, jlet_e]
      rcases ih with ih | i1
      · exact Or.inl ih
      · refine Or.inr (fun h' e' a1 a2 a3 => ?_)
        by_cases w : h' = h
        · rw [w]; exact l1 e' (Nat.zero_le _) a3
        · exact i1 h' e' (by omega) a2 a3
theorem wf_p (hq : okP q) {s n j : Nat} : ∀ (r p m S g d : Nat) (Mx Mm : jM), r < m → wI q P i s n j S g d r p Mx Mm → Rl Q1 Mx Mm → ∃ Nx Nm k', f_X1_writeFirst_L9 (4 + j) 40 m (nI n) (nI p) Mx = some (nI n, Nx) ∧ f_X6_order_L72 m (nI j) (nI P) (nI (cs S d g)) (nI n) (nI p) Mm = some (k', nI n, Nm) ∧ Rl Q1 Nx Nm
  | 0, p, m, S, g, d, Mx, Mm, hm, I, R => by
    obtain ⟨m', rfl⟩ : ∃ m', m = m' + 1 := ⟨m - 1, by omega⟩
    obtain ⟨hP, hS, hd, hg, hn, hj, hp, hpr, hx, ho, hK, hc, hI, hmm, hN⟩ := I
    have e : p = n := by omega
    subst e
    refine ⟨Mx, Mm, nI (cs S d g), ?_, ?_, R⟩
    · show f_X1_writeFirst_L9_b (4 + j) 40 (f_X1_writeFirst_L9 (4 + j) 40 m') _ _ Mx = _
      unfold f_X1_writeFirst_L9_b
      rw [if_pos (nI_le (Nat.le_refl _) (by omega))]
    · show f_X6_order_L72_b (f_X6_order_L72 m') _ _ _ _ _ Mm = _
      unfold f_X6_order_L72_b
      rw [if_pos (nI_le (Nat.le_refl _) (by omega))]
  | r + 1, p, m, S, g, d, Mx, Mm, hm, I, R => by
    obtain ⟨m', rfl⟩ : ∃ m', m = m' + 1 := ⟨m - 1, by omega⟩
    have h6 := hq.1
    have h7 := hq.2.1
    have lh := wf_h hq I (q 0 1) 0 jfu (by omega) (by unfold jfu; omega)
    obtain ⟨hP, hS, hd, hg, hn, hj, hp, hpr, hx, ho, hK, hc, hI, hmm, hN⟩ := I
    obtain ⟨c1, c2, c3, c4⟩ := cs_d hS hd hg
    have hpt : ∃ y, Eg q P (cs S d g) y ∧ pth q P i r y := by
      rcases hI with ⟨_, h2, _⟩ | ⟨h2, _⟩
      · exact h2
      · omega
    rcases lh with ⟨h, e, hh, he, hb, Nx, z, l1, l2, l3⟩ | no
    · have l1 : f_X1_writeFirstPair_L2 (4 + j) 40 jfu (nI (2 * p)) 0 Mx = _ := l1
      have l3 : f_X6_order_L89 jfu (nI j) (nI P) (nI (cs S d g)) (nI p) 1 (nI (cs S d g)) 0 Mm = _ := l3
      unfold bt at hb
      rw [Bool.and_eq_true, cd_t] at hb
      obtain ⟨hl, hpy⟩ := hb
      obtain ⟨d1, d2, d3, d4⟩ := bhx_d hq c4 hh he
      rw [c1] at d1; rw [c2] at d2; rw [c3] at d3
      have hy := cs_x (bhx q (cs S d g) h e)
      rw [d1, d2, d3] at hy
      have lb := (ldx_b hl).2.1
      rw [c1] at lb
      have hE : Eg q P (cs S d g) (bhx q (cs S d g) h e) := ⟨h, e, hh, he, hl, rfl⟩
      have o2 : ord P S g d (si (si Mx (4 + j) (2 * p) (nI h)) (4 + j) (2 * p + 1) (dI e)) := by
        refine ⟨?_, ?_, ?_, ?_⟩
        · rw [gi_si, if_neg (by omega), gi_si, if_neg (by omega)]; exact ho.1
        · rw [gi_si, if_neg (by omega), gi_si, if_neg (by omega)]; exact ho.2.1
        · rw [gi_si, if_neg (by omega), gi_si, if_neg (by omega)]; exact ho.2.2.1
        · rw [gi_si, if_neg (by omega), gi_si, if_neg (by omega)]; exact ho.2.2.2
      have x2 : hX q (si (si Mx (4 + j) (2 * p) (nI h)) (4 + j) (2 * p + 1) (dI e)) := hX_st (stX_tr (stX_si (by rw [rg4 hj]; decide)) (stX_si (by rw [rg4 hj]; decide))) hx
      have m2 : hM q (si (si Mm 2 (40 * j + 2 * p) (nI h)) 2 (40 * j + (2 * p + 1)) (dI e)) := hM_st (stM_tr (stM_si (o := 2) (k := 40 * j + 2 * p) (show (1 : Nat) ≠ 3 by decide)) (stM_si (o := 2) (k := 40 * j + (2 * p + 1)) (show (1 : Nat) ≠ 3 by decide))) hmm
      obtain ⟨Nx', n1, n2, n3, n4⟩ := x_live hq x2 o2 (by omega) hh he
      have eN : Nx' = Nx := Option.some.inj (n1.symm.trans l2)
      subst eN
      have R1 := rl_lay (v := nI h) Q1_stay R hj (show 2 * p < 40 by omega) (Nat.le_refl _)
      have R2 := rl_lay (v := dI e) Q1_stay R1 hj (show 2 * p + 1 < 40 by omega) (Nat.le_refl _)
      have R3 : Rl Q1 Nx' (si (si Mm 2 (40 * j + 2 * p) (nI h)) 2 (40 * j + (2 * p + 1)) (dI e)) := R_st R2 (fun k hk => st65 n3 n4 hk) (fun k _ => stM_rf)
      have I2 : wI q P i s n j (S ||| 2 ^ h) (gpb q g e) (d ||| dbt e) r (p + 1) Nx' (si (si Mm 2 (40 * j + 2 * p) (nI h)) 2 (40 * j + (2 * p + 1)) (dI e)) := by
        refine ⟨hP, jor7 hS (by omega), dbt_or hd (by omega), by have := gpb_le (q := q) g e; omega, hn, hj, by rw [pc_or S hS h (by omega) lb]; omega, by omega, hX_st (st65 n3 n4 (by decide)) x2, n2, fun S' g' a1 a2 a3 => ?_, by rw [hy]; exact clo_e hc hE, ?_, m2, fun y a1 a2 => ?_⟩
        · rw [n4]; exact hK S' g' a1 a2 a3
        · rw [hy]
          refine Or.inl ⟨by omega, hpy, fun k hk hp => ?_⟩
          rcases hI with ⟨_, _, h3⟩ | ⟨h3, _⟩
          · exact h3 (k + 1) (by omega) ⟨_, hE, hp⟩
          · omega
        · rw [gi_si, if_neg (by omega), gi_si, if_neg (by omega)]; exact hN y a1 a2
      obtain ⟨Ox, Om, k', k1, k2, k3⟩ := wf_p hq r (p + 1) m' (S ||| 2 ^ h) (gpb q g e) (d ||| dbt e) Nx' _ (by omega) I2 R3
      refine ⟨Ox, Om, k', ?_, ?_, k3⟩
      · show f_X1_writeFirst_L9_b (4 + j) 40 (f_X1_writeFirst_L9 (4 + j) 40 m') _ _ Mx = _
        unfold f_X1_writeFirst_L9_b f_X1_writeFirstPair
        rw [if_neg (nI_ge (show p < n by omega) (by omega)), e2k, nI_1, if_neg (show ¬ Int32.ofNat 40 ≤ nI (2 * p + 1) from nI_ge (b := 40) (by omega) (by decide)), l1]
        show jlet (nI p + 1) (fun v5 => f_X1_writeFirst_L9 (4 + j) 40 m' (nI n) v5 Nx') = _
        rw [jlet_e, nI_1, k1]
      · show f_X6_order_L72_b (f_X6_order_L72 m') _ _ _ _ _ Mm = _
        unfold f_X6_order_L72_b
        rw [if_neg (nI_ge (show p < n by omega) (by omega)), l3, jb4_e, jlet_e, nI_1, ← hy, k2]
    · obtain ⟨y, ⟨h, e, hh, he, hl, rfl⟩, hpy⟩ := hpt
      have := no h e (Nat.zero_le _) hh he
      unfold bt at this
      rw [hl, cd_tt hpy] at this
      exact absurd this (by decide)
theorem s_order : kS_order (Rl Q1) := by
  intro a1 a2 Mx Mm R
  obtain ⟨q, c, H⟩ := R.2.2.2
  have b := vbd H.1 H.2.2.2.1
  unfold f_X5_order f_X6_order
  rcases jdeed q H.1 a1 0 (Or.inl rfl) with w | ⟨i, hi, rfl⟩
  · rw [x_hd_f H.2.1 w, m_hd_f H.1 H.2.2.1 w]
    exact ⟨-1, Mx, Mm, rfl, rfl, R⟩
  · rw [x_hd_t H.1 H.2.1 hi, jb1_e, if_neg j10, m_hd_t H.1 H.2.2.1 hi, jb1_e, if_neg j10]
    rcases jcase a2 6 (by decide) with w | ⟨j, hj, rfl⟩
    · rw [x_knowsa_f w, m_isRow_f w]
      exact ⟨-1, Mx, Mm, rfl, rfl, R⟩
    · rw [x_knowsa_t hj, jb1_e, if_neg j10, m_isRow_t hj, jb1_e, if_neg j10, x_shelf (H_cx H), jb1_e, m12_0 (H_cm H), m_shelf (H_cm H) (by omega), jb1_e]
      have hP := shf_lt (c := c) (v := vec q c (c 1 0)) (d := vec q c (c 1 0) 0) H.1
      have hPh := shf_h (q := q) (c := c) (v := vec q c (c 1 0)) (d := vec q c (c 1 0) 0)
      generalize shf q c (vec q c (c 1 0)) (vec q c (c 1 0) 0) = P at *
      have hs := s0_lt H.1 H.2.2.2.1
      obtain ⟨Nx, a1, a2, a3, a4, a5⟩ := x_explore (H_cx H) hP hPh
      obtain ⟨Nm, b1, b2, b3, b4⟩ := m_need (i := i) H.1 hP (by omega) H.2.2.1
      have sx : ∀ j, j ≠ 6 → stX j Mx Nx := fun j hj => st_ex a4 a5 hj
      have sm : ∀ j, j ≠ 6 → stM j Mm Nm := fun j hj => st_re (fun a k h1 h2 h3 => b3 a k h2) (fun a k => b4 a k) hj
      have R2 : Rl Q1 Nx Nm := R_st R sx sm
      have H2 : Q2 q c Nx Nm := Q2_st (sx 3 (by decide)) (sx 4 (by decide)) (sx 5 (by decide)) (sm 3 (by decide)) (sm 4 (by decide)) (sm 5 (by decide)) H
      have hF := isN_F (P := P) (i := i) H.1 hs
      rw [a1, jb1_e, b1, jb1_e, x_fht (T := clo (Eg q P) (s0 q c)) a2 (by omega), jb1_e, m_begin (H_cm H2), jb1_e, jg_t (jin_nI (show s0 q c < 24576 by omega) (by decide)), jlet_e, nI_clamp (show s0 q c < 2 ^ 31 by omega)]
      generalize fwl (fun S => cd (dS (clo (Eg q P) (s0 q c)) i S)) pc 99 128 = F at *
      obtain ⟨v, v1, v2⟩ := b2 (s0 q c) (Nat.zero_le _) (by omega)
      have v3 : v = F := isN_u v2 hF
      subst v3
      rw [v1]
      unfold e99
      rcases isN_bd H.1 (show s0 q c < 24576 by omega) hF with hv | hv
      · rw [if_neg (show ¬ v = 99 by omega), if_neg (show ¬ nI v = -9 from fun z => nI_pos (n := v) (by omega) (by rw [z]; decide)), if_pos (show nI v < (99 : Int32) from nI_lt (b := 99) (by omega) (by decide)), e2k, x_begina hj (n := 0), jb1_e, jg_t (jin_nI hj (by decide)), nI_clamp (show j < 2 ^ 31 by omega), m_row hj (show 2 * v ≤ 40 by omega), jb2_e]
        have R3 : Rl Q1 (jff (si Nx 2 j (nI (2 * v))) (4 + j) 0 40 0) (jff (si Nm 1 j (nI (2 * v))) 2 (40 * j) (40 * j + 40) 0) := rl_rows Q1_stay R2 (fun i hi => stX_tr (stX_si (fun q => hi (q.symm.trans rfl))) (stX_jff (fun q => hi (q.symm.trans (rg4 hj))))) (fun i hi => stM_tr (stM_si (fun q => hi (q.symm.trans rfl))) (stM_jff (fun k q => hi (q.symm.trans rfl)))) (rr_row hj (Or.inr ⟨2 * v, by omega, rfl⟩) R2.2.1)
        have x3 : stX 3 Nx (jff (si Nx 2 j (nI (2 * v))) (4 + j) 0 40 0) := stX_tr (stX_si (by decide)) (stX_jff (by rw [rg4 hj]; decide))
        have m3 : stM 3 Nm (jff (si Nm 1 j (nI (2 * v))) 2 (40 * j) (40 * j + 40) 0) := stM_tr (stM_si (o := 1) (k := j) (show (1 : Nat) ≠ 3 by decide)) (stM_jff (o := 2) (fun k => show (1 : Nat) ≠ 3 by decide))
        have o3 : ∀ k, gi (jff (si Nx 2 j (nI (2 * v))) (4 + j) 0 40 0) 65 k = gi Nx 65 k := fun k => by rw [gi_jff, if_neg (by omega), gi_si, if_neg (by omega)]
        obtain ⟨Kx, k1, k2, k3, k4⟩ := x_fw (i := i) (n := v) H.1 hs (by omega) hv hP hPh (hX_st x3 H2.2.1) (by rw [o3]; exact a3.1) (fun S D g h1 h2 h3 => a2 S D g h1 h2 h3)
        have sk : ∀ j', j' ≠ 6 → stX j' (jff (si Nx 2 j (nI (2 * v))) (4 + j) 0 40 0) Kx := fun j' hj' a k ha => ⟨k3 a k, k4 a k (fun w => hj' (by rw [← ha, w]; rfl))⟩
        have R4 : Rl Q1 Kx (jff (si Nm 1 j (nI (2 * v))) 2 (40 * j) (40 * j + 40) 0) := R_st R3 sk (fun _ _ => stM_rf)
        have I : wI q P i (s0 q c) v j 0 (if 2 < vec q c (c 1 0) 4 then 2 else vec q c (c 1 0) 4) (vec q c (c 1 0) 3) v 0 Kx (jff (si Nm 1 j (nI (2 * v))) 2 (40 * j) (40 * j + 40) 0) := by
          refine ⟨hP, by decide, b.2.2.2.1, g0_le _, hv, hj, rfl, by omega, hX_st (sk 3 (by decide)) (hX_st x3 H2.2.1), ⟨?_, ?_, ?_, ?_⟩, k2, clo_s, hF, hM_st m3 H2.2.2.1, fun y a1 a2 => ?_⟩
          · rw [k3, o3]; exact a3.1
          · rw [k3, o3]; exact a3.2.1
          · rw [k3, o3]; exact a3.2.2.1
          · rw [k3, o3]; exact a3.2.2.2
          · rw [gi_jff, if_neg (by omega), gi_si, if_neg (by omega)]; exact b2 y a1 a2
        obtain ⟨Ox, Om, k', p1, p2, p3⟩ := wf_p H.1 v 0 jfu 0 _ _ Kx _ (by unfold jfu; omega) I R4
        have p1 : f_X1_writeFirst_L9 (4 + j) 40 jfu (nI v) 0 Kx = _ := p1
        have p2 : f_X6_order_L72 jfu (nI j) (nI P) (nI (s0 q c)) (nI v) 0 _ = _ := p2
        unfold f_X1_writeFirst
        rw [k1, jb1_e, p1, jb2_e, jb1_e, p2, jb3_e]
        exact ⟨nI v, Ox, Om, rfl, rfl, p3⟩
      · rw [hv, if_pos rfl, if_pos rfl, if_neg (show ¬ nI 99 < (99 : Int32) by decide)]
        exact ⟨-9, Nx, Nm, rfl, rfl, R2⟩
end KB
