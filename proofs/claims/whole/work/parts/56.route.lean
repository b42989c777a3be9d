/-! route, count -/
section JG
variable {q c : Nat → Nat → Nat} {M Mx Mm : jM}
/-- a course of no steps has no history -/
theorem vec_cg {c' : Nat → Nat → Nat} : ∀ s, (∀ k, k < s → c 2 k = c' 2 k ∧ c 3 k = c' 3 k ∧ c 4 k = c' 4 k) → vec q c s = vec q c' s
  | 0, _ => rfl
  | s + 1, h => by
    show stp q (vec q c s) (c 2 s) (c 3 s) (c 4 s) = stp q (vec q c' s) (c' 2 s) (c' 3 s) (c' 4 s)
    rw [vec_cg s (fun k hk => h k (by omega)), (h s (by omega)).1, (h s (by omega)).2.1, (h s (by omega)).2.2]
theorem rl_cour (R : Rl Q1 Mx Mm) {Mx' Mm' : jM} (sx : ∀ j, j < 3 → stX j Mx Mx') (sm : ∀ j, j < 3 → stM j Mm Mm') (h : Q1 Mx' Mm') : Rl Q1 Mx' Mm' := ⟨ra_stay (sx 0 (by decide)) (sm 0 (by decide)) R.1, rr_stay (sx 1 (by decide)) (sm 1 (by decide)) R.2.1, rt_stay (sx 2 (by decide)) (sm 2 (by decide)) R.2.2.1, h⟩
theorem s_route : kS_route (Rl Q1) := by
  intro a1 a2 Mx Mm R
  obtain ⟨q, c, H⟩ := R.2.2.2
  have b := vbd H.1 H.2.2.2.1
  unfold f_X5_route f_X6_route
  rcases jcase a1 3 (by decide) with b | ⟨k, hk, rfl⟩
  · rw [m_in0_f (hi := 2) (n := 2) rfl b (by decide), jb1_e, if_pos j00]
    by_cases b1 : a1 < 0
    · rw [if_pos b1]; exact ⟨_, Mx, Mm, rfl, rfl, R⟩
    · rw [if_neg b1, if_pos (show (3 : Int32) ≤ a1 from b.resolve_left b1)]; exact ⟨_, Mx, Mm, rfl, rfl, R⟩
  · rw [m_in0_t (hi := 2) (j := k) (n := 2) rfl (by omega) (by decide), jb1_e, if_neg j10, if_neg (nI_pos (by omega)), if_neg (show ¬ (3 : Int32) ≤ nI k from nI_ge (b := 3) hk (by decide))]
    rcases jcase a2 10 (by decide) with b | ⟨v, hv, rfl⟩
    · rw [m_in0_f (hi := 9) (n := 9) rfl b (by decide), jb1_e, if_pos j00]
      by_cases b1 : a2 < 0
      · rw [if_pos b1]; exact ⟨_, Mx, Mm, rfl, rfl, R⟩
      · have b3 : ¬ a2 ≤ (9 : Int32) := by
          have b2 := b.resolve_left b1
          rw [Int32.le_iff_toInt_le] at b2 ⊢
          have e1 : (nI 10).toInt = 10 := rfl
          have e2 : (9 : Int32).toInt = 9 := rfl
          omega
        rw [if_neg b1, if_neg b3]; exact ⟨_, Mx, Mm, rfl, rfl, R⟩
    · rw [m_in0_t (hi := 9) (j := v) (n := 9) rfl (by omega) (by decide), jb1_e, if_neg j10, if_neg (nI_pos (by omega)), if_pos (show nI v ≤ (9 : Int32) from nI_le (b := 9) (by omega) (by decide)), x6 (H_cx H), m15 (H_cm H)]
      by_cases e : c 1 0 = 0
      · rw [e, if_pos (by decide), if_pos (by decide)]
        simp only [jg_t (jin_nI hk (show 3 < 2 ^ 31 by decide)), jlet_e, nI_clamp (show k < 2 ^ 31 by omega)]
        have r1 : gi Mx 40 k = nI (c 0 k) := H.2.2.2.2.1.2.2.1 k hk
        have r2 : gi Mm 11 k = nI (c 0 k) := H.2.2.2.2.2.1.2.2.2 k hk
        rw [r1, r2]
        have sx : ∀ j, j ≠ 4 → stX j Mx (si Mx 40 k (nI v)) := fun j hj => stX_si (fun w => hj (w.symm.trans rfl))
        have sm : ∀ j, j ≠ 4 → stM j Mm (si Mm 11 k (nI v)) := fun j hj => stM_si (fun w => hj (w.symm.trans rfl))
        refine ⟨_, _, _, rfl, rfl, rl_cour R (fun j hj => sx j (by omega)) (fun j hj => sm j (by omega)) ⟨q, fun a z => if a = 0 then (if z = k then v else c 0 z) else c a z, H.1, hX_st (sx 3 (by decide)) H.2.1, hM_st (sm 3 (by decide)) H.2.2.1, ⟨?_, fun z hz => ?_, fun s hs => ?_⟩, ⟨?_, fun j hj => ?_, fun z hz => ?_, fun s hs => ?_, fun h hh => ?_⟩, ⟨?_, fun j hj => ?_, fun s hs => ?_, fun z hz => ?_⟩, fun z hz => kp_st (sx 5 (by decide)) (sm 5 (by decide)) hz (H.2.2.2.2.2.2 z hz)⟩⟩
        · show c 1 0 ≤ 40; omega
        · show (if z = k then v else c 0 z) ≤ 9
          by_cases w : z = k
          · rw [if_pos w]; omega
          · rw [if_neg w]; exact H.2.2.2.1.2.1 z hz
        · have hs : s < c 1 0 := hs
          omega
        · show gi (si Mx 40 k (nI v)) 39 6 = nI (c 1 0)
          rw [gi_si, if_neg (by omega)]; exact x6 (H_cx H)
        · show gi (si Mx 40 k (nI v)) 39 (7 + j) = nI (vec q _ (c 1 0) j)
          rw [gi_si, if_neg (by omega), H.2.2.2.2.1.2.1 j hj, e]; rfl
        · show gi (si Mx 40 k (nI v)) 40 z = nI (if z = k then v else c 0 z)
          rw [gi_si]
          by_cases w : z = k
          · rw [if_pos ⟨rfl, w⟩, if_pos w]
          · rw [if_neg (fun u => w u.2), if_neg w]; exact H.2.2.2.2.1.2.2.1 z hz
        · have hs : s < c 1 0 := hs
          omega
        · show gi (si Mx 40 k (nI v)) 44 h = dI (vec q _ (c 1 0) (5 + h))
          rw [gi_si, if_neg (by omega), show gi Mx 44 h = _ from H.2.2.2.2.1.2.2.2.2 h hh, e]; rfl
        · show gi (si Mm 11 k (nI v)) 0 15 = nI (c 1 0)
          rw [gi_si, if_neg (by omega)]; exact m15 (H_cm H)
        · intro hv
          show gi (si Mm 11 k (nI v)) 12 j = enc j (vec q _ (c 1 0) j)
          rw [gi_si, if_neg (by omega), H.2.2.2.2.2.1.2.1 j hj hv, e]; rfl
        · have hs : s < c 1 0 := hs
          omega
        · show gi (si Mm 11 k (nI v)) 11 z = nI (if z = k then v else c 0 z)
          rw [gi_si]
          by_cases w : z = k
          · rw [if_pos ⟨rfl, w⟩, if_pos w]
          · rw [if_neg (fun u => w u.2), if_neg w]; exact H.2.2.2.2.2.1.2.2.2 z hz
      · rw [if_neg (nI_nle (by omega) (by omega)), if_neg (nI_nle (by omega) (by omega))]
        exact ⟨_, Mx, Mm, rfl, rfl, R⟩
theorem x_meals (hq : okP q) (hx : hX q M) : f_X2_meals M = some (nI (cnt (fun i => isk (q 1 i) 1) (q 0 0))) := by
  have h6 := hq.1
  have hl : f_X2_meals_L4 jfu 0 0 M = some (nI (cnt (fun i => isk (q 1 i) 1) (q 0 0)), nI (q 0 0)) := by
    refine jloop0 (L := fun m (s : Int32 × Int32) => f_X2_meals_L4 m s.1 s.2 M) (S := fun k => (nI (cnt (fun i => isk (q 1 i) 1) k), nI k)) (n := q 0 0) (by unfold jfu; omega) ?_ ?_
    · intro m k hk
      show f_X2_meals_L4_b (f_X2_meals_L4 m) _ (nI k) M = f_X2_meals_L4 m _ (nI (k + 1)) M
      unfold f_X2_meals_L4_b
      rw [hx.1, if_neg (nI_ge hk (by omega)), show f_X2_isOfKind (nI k) 1 M = _ from x_kind (k := 1) hq hx hk (by decide), jb1_e, jlet_e, jlet_e, jlet_e, nI_1, jb2i, jcac rfl]
    · intro m
      show f_X2_meals_L4_b (f_X2_meals_L4 m) _ (nI (q 0 0)) M = _
      unfold f_X2_meals_L4_b
      rw [hx.1, if_pos (nI_le (Nat.le_refl _) (by omega))]
  unfold f_X2_meals
  rw [hl]; rfl
theorem m_meals (hq : okP q) (hm : hM q M) : f_X6_count_L4 jfu 0 0 M = some (nI (cnt (fun i => isk (q 1 i) 1) (q 0 0)), nI (q 0 0)) := by
  have h6 := hq.1
  refine jloop0 (L := fun m (s : Int32 × Int32) => f_X6_count_L4 m s.1 s.2 M) (S := fun k => (nI (cnt (fun i => isk (q 1 i) 1) k), nI k)) (n := q 0 0) (by unfold jfu; omega) ?_ ?_
  · intro m k hk
    show f_X6_count_L4_b (f_X6_count_L4 m) _ (nI k) M = f_X6_count_L4 m _ (nI (k + 1)) M
    unfold f_X6_count_L4_b
    rw [hm.1, if_neg (nI_ge hk (by omega)), jg_t (jin_nI (show k < 6 by omega) (by decide)), nI_clamp (show k < 2 ^ 31 by omega), (hm.2.2.1 k hk).1, show f_X6_isKind (nI (q 1 k)) 1 M = _ from m_isKind (k := 1) (hq.2.2.2.1 k hk).1 (by decide), jb1_e, jlet_e, jlet_e, jlet_e, nI_1, jb2i, jcac rfl]
  · intro m
    show f_X6_count_L4_b (f_X6_count_L4 m) _ (nI (q 0 0)) M = _
    unfold f_X6_count_L4_b
    rw [hm.1, if_pos (nI_le (Nat.le_refl _) (by omega))]
theorem jm1 {x : Int32} {m : Nat} (hm : m < 2 ^ 31) (h : x = -1 ∨ ∃ n, n ≤ m ∧ x = nI n) : (x = -1 ∧ x < 0) ∨ (¬ x = -1 ∧ ¬ x < 0) := by
  rcases h with rfl | ⟨n, hn, rfl⟩
  · exact Or.inl ⟨rfl, by decide⟩
  · exact Or.inr ⟨nI_m1 (by omega), nI_pos (by omega)⟩
theorem x_pra (hr : rr Mx Mm) : f_X4_presenta Mx = some (nI (cnt (fun r => !(decide (gi Mx 2 r = -1))) 6)) := by
  have hl : f_X4_presenta_L4 jfu 0 0 Mx = some (nI (cnt (fun r => !(decide (gi Mx 2 r = -1))) 6), nI 6) := by
    refine jloop0 (L := fun m (s : Int32 × Int32) => f_X4_presenta_L4 m s.1 s.2 Mx) (S := fun k => (nI (cnt (fun r => !(decide (gi Mx 2 r = -1))) k), nI k)) (n := 6) (by decide) ?_ ?_
    · intro m k hk
      show f_X4_presenta_L4_b (f_X4_presenta_L4 m) _ (nI k) Mx = f_X4_presenta_L4 m _ (nI (k + 1)) Mx
      unfold f_X4_presenta_L4_b f_X4_isTherea
      rw [if_neg (show ¬ (6 : Int32) ≤ nI k from nI_ge (b := 6) hk (by decide)), jg_t (jin_nI hk (by decide)), nI_clamp (show k < 2 ^ 31 by omega), show (if gi Mx 2 k = -1 then some (0 : Int32) else some 1) = some (b2 (!(decide (gi Mx 2 k = -1)))) by by_cases e : gi Mx 2 k = -1 <;> simp [e, b2], jb1_e, jlet_e, jlet_e, jlet_e, nI_1, jb2i, jcac rfl]
    · intro m; rfl
  unfold f_X4_presenta
  rw [hl]; rfl
theorem x_prb (hr : rt Mx Mm) : f_X4_presentb Mx = some (nI (cnt (fun r => !(decide (gi Mx 11 r = -1))) 4)) := by
  have hl : f_X4_presentb_L4 jfu 0 0 Mx = some (nI (cnt (fun r => !(decide (gi Mx 11 r = -1))) 4), nI 4) := by
    refine jloop0 (L := fun m (s : Int32 × Int32) => f_X4_presentb_L4 m s.1 s.2 Mx) (S := fun k => (nI (cnt (fun r => !(decide (gi Mx 11 r = -1))) k), nI k)) (n := 4) (by decide) ?_ ?_
    · intro m k hk
      show f_X4_presentb_L4_b (f_X4_presentb_L4 m) _ (nI k) Mx = f_X4_presentb_L4 m _ (nI (k + 1)) Mx
      unfold f_X4_presentb_L4_b f_X4_isThereb
      rw [if_neg (show ¬ (4 : Int32) ≤ nI k from nI_ge (b := 4) hk (by decide)), jg_t (jin_nI hk (by decide)), nI_clamp (show k < 2 ^ 31 by omega), show (if gi Mx 11 k = -1 then some (0 : Int32) else some 1) = some (b2 (!(decide (gi Mx 11 k = -1)))) by by_cases e : gi Mx 11 k = -1 <;> simp [e, b2], jb1_e, jlet_e, jlet_e, jlet_e, nI_1, jb2i, jcac rfl]
    · intro m; rfl
  unfold f_X4_presentb
  rw [hl]; rfl
theorem m_there {o n : Nat} {g : Nat → Bool} (hn : n < 100) (h : ∀ k, k < n → (g k = true ∧ ¬ gi M o k < 0) ∨ (g k = false ∧ gi M o k < 0)) : f_X6_there o n M = some (nI (cnt g n)) := by
  have hl : f_X6_there_L4 o n jfu 0 0 M = some (nI (cnt g n), nI n) := by
    refine jloop0 (L := fun m (s : Int32 × Int32) => f_X6_there_L4 o n m s.1 s.2 M) (S := fun k => (nI (cnt g k), nI k)) (n := n) (by unfold jfu; omega) ?_ ?_
    · intro m k hk
      show f_X6_there_L4_b o n (f_X6_there_L4 o n m) _ (nI k) M = f_X6_there_L4 o n m _ (nI (k + 1)) M
      unfold f_X6_there_L4_b
      rw [if_neg (show ¬ Int32.ofNat n ≤ nI k from nI_ge hk (by omega)), jg_t (jin_nI hk (by omega)), nI_clamp (show k < 2 ^ 31 by omega), jlet_e, jlet_e, jlet_e, nI_1, jcac (f := g)]
      rcases h k hk with ⟨e1, e2⟩ | ⟨e1, e2⟩
      · rw [if_neg e2, e1]; rfl
      · rw [if_pos e2, e1]; rfl
    · intro m
      show f_X6_there_L4_b o n (f_X6_there_L4 o n m) _ (nI n) M = _
      unfold f_X6_there_L4_b
      rw [if_pos (show Int32.ofNat n ≤ nI n from nI_le (Nat.le_refl _) (by omega))]
  unfold f_X6_there
  rw [hl]; rfl
theorem kp01 {k : Nat} (h : kp q Mx Mm k) : gi Mx 64 k = gi Mm 18 k := by
  rcases h with ⟨h1, h2⟩ | ⟨h1, h2, _⟩ <;> rw [h1, h2]
theorem x_khs (M : jM) : f_X5_keptHouses M = some (((0 + (if gi M 64 0 = 0 then 0 else 1)) + (if gi M 64 1 = 0 then 0 else 1)) + (if gi M 64 2 = 0 then 0 else 1)) := rfl
theorem x_count_ok (R : Rl Q1 Mx Mm) {w : Nat} (hw : w < 9) : ∃ r, f_X5_countOf (nI w) Mx = some r ∧ f_X6_count (nI w) Mm = some r := by
  obtain ⟨q, c, H⟩ := R.2.2.2
  have b := vbd H.1 H.2.2.2.1
  unfold f_X5_countOf f_X6_count
  rw [m_meals H.1 H.2.2.1, jb2_e]
  rcases (show w = 0 ∨ w = 1 ∨ w = 2 ∨ w = 3 ∨ w = 4 ∨ w = 5 ∨ w = 6 ∨ w = 7 ∨ w = 8 by omega) with rfl | rfl | rfl | rfl | rfl | rfl | rfl | rfl | rfl
  · rw [H.2.1.1, H.2.2.1.1]; exact ⟨_, rfl, rfl⟩
  · rw [H.2.1.2.1, H.2.2.1.2.1]; exact ⟨_, rfl, rfl⟩
  · rw [x6 (H_cx H), m15 (H_cm H)]; exact ⟨_, rfl, rfl⟩
  · rw [x10 (H_cx H), m12_3 (H_cm H), x_bc (by omega), m_on (by omega)]; exact ⟨_, rfl, rfl⟩
  · rw [x8 (H_cx H), m12_1 (H_cm H), x_bc (n := vec q c (c 1 0) 1) (by omega), m_on (n := vec q c (c 1 0) 1) (by omega)]; exact ⟨_, rfl, rfl⟩
  · rw [x_meals H.1 H.2.1]; exact ⟨_, rfl, rfl⟩
  · rw [x_pra R.2.1, m_there (g := fun r => !(decide (gi Mx 2 r = -1))) (by decide) (fun k hk => by
      obtain ⟨e1, e2, _⟩ := R.2.1 k hk
      rw [← e1]
      rcases jm1 (by decide) e2 with ⟨a, b⟩ | ⟨a, b⟩
      · exact Or.inr ⟨by simp [a], b⟩
      · exact Or.inl ⟨by simp [a], b⟩)]
    exact ⟨_, rfl, rfl⟩
  · rw [x_prb R.2.2.1, m_there (o := 3) (g := fun r => !(decide (gi Mx 11 r = -1))) (by decide) (fun k hk => by
      obtain ⟨e1, e2, _⟩ := R.2.2.1 k hk
      rw [← e1]
      rcases jm1 (by decide) e2 with ⟨a, b⟩ | ⟨a, b⟩
      · exact Or.inr ⟨by simp [a], b⟩
      · exact Or.inl ⟨by simp [a], b⟩)]
    exact ⟨_, rfl, rfl⟩
  · have k0 : gi Mm 18 (0 : Int32).toNatClampNeg = gi Mx 64 0 := (kp01 (H.2.2.2.2.2.2 0 (by decide))).symm
    have k1 : gi Mm 18 (1 : Int32).toNatClampNeg = gi Mx 64 1 := (kp01 (H.2.2.2.2.2.2 1 (by decide))).symm
    have k2 : gi Mm 18 (2 : Int32).toNatClampNeg = gi Mx 64 2 := (kp01 (H.2.2.2.2.2.2 2 (by decide))).symm
    rw [x_khs, k0, k1, k2]
    refine ⟨_, rfl, ?_⟩
    show some _ = some _
    refine congrArg some ?_
    rw [Int32.zero_add]
theorem s_count : kS_count (Rl Q1) := by
  intro a1 Mx Mm R
  unfold f_X5_count
  rcases jcase a1 9 (by decide) with b | ⟨w, hw, rfl⟩
  · obtain ⟨q, c, H⟩ := R.2.2.2
    refine ⟨-1, ?_, ?_⟩
    · by_cases b1 : a1 < 0
      · rw [if_pos b1]
      · rw [if_neg b1, if_neg (show ¬ a1 < 9 from Int32.not_lt.mpr (b.resolve_left b1))]
    · unfold f_X6_count
      rw [m_meals H.1 H.2.2.1, jb2_e]
      have n : ∀ k, k < 9 → ¬ a1 = nI k := fun k hk w => by
        subst w
        rcases b with b | b
        · exact nI_pos (by omega) b
        · exact nI_ge hk (by decide) b
      rw [if_neg (show ¬ a1 = 0 from n 0 (by decide)), if_neg (show ¬ a1 = 1 from n 1 (by decide)), if_neg (show ¬ a1 = 2 from n 2 (by decide)), if_neg (show ¬ a1 = 3 from n 3 (by decide)), if_neg (show ¬ a1 = 4 from n 4 (by decide)), if_neg (show ¬ a1 = 5 from n 5 (by decide)), if_neg (show ¬ a1 = 6 from n 6 (by decide)), if_neg (show ¬ a1 = 7 from n 7 (by decide)), if_neg (show ¬ a1 = 8 from n 8 (by decide))]
  · obtain ⟨r, e1, e2⟩ := x_count_ok R hw
    rw [if_neg (nI_pos (by omega)), if_pos (show nI w < 9 from nI_lt (b := 9) hw (by decide)), e1, e2]
    exact ⟨r, rfl, rfl⟩
end JG
