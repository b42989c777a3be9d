/-! deed, hour, shelf, can, opens -/
section JD
variable {q c : Nat → Nat → Nat} {M Mx Mm : jM}
theorem H_cx (H : Q2 q c Mx Mm) : CX q c Mx := ⟨H.1, H.2.1, H.2.2.2.1, H.2.2.2.2.1⟩
theorem H_cm (H : Q2 q c Mx Mm) : CM q c Mm := ⟨H.1, H.2.2.1, H.2.2.2.1, H.2.2.2.2.2.1⟩
theorem dl_lt (hq : okP q) : ∀ j s, j ≤ q 0 0 → s < 64 → dl (q 3) j s < 64
  | 0, s, _, h => h
  | j + 1, s, hj, h => dl_lt hq j _ (by omega) (by
      by_cases e : s.testBit j = true
      · rw [if_pos e]; exact Nat.or_lt_two_pow (n := 6) h (q3_lt hq (by omega))
      · rw [if_neg e]; exact h)
theorem mc_lt (hq : okP q) {i : Nat} (hi : i < q 0 0) : mc q i < 64 := dl_lt hq _ _ (by omega) (q3_lt hq hi)
theorem m_allnL (hq : okP q) (h : hM q M) : ∀ j m s, j ≤ q 0 0 → j < m → s < 64 → f_X6_allNeeds_L11 m (nI s) (nI j - 1) M = some (nI (dl (q 3) j s), -1)
  | 0, m, s, _, hm, hs => by
    obtain ⟨m', rfl⟩ : ∃ m', m = m' + 1 := ⟨m - 1, by omega⟩
    show f_X6_allNeeds_L11_b (f_X6_allNeeds_L11 m') _ _ M = _
    unfold f_X6_allNeeds_L11_b
    rw [if_pos (by decide)]; rfl
  | j + 1, m, s, hj, hm, hs => by
    obtain ⟨m', rfl⟩ : ∃ m', m = m' + 1 := ⟨m - 1, by omega⟩
    have h6 := hq.1
    have e6 : (if s.testBit j = true then s ||| q 3 j else s) < 64 := by
      by_cases e : s.testBit j = true
      · rw [if_pos e]; exact Nat.or_lt_two_pow (n := 6) hs (q3_lt hq (by omega))
      · rw [if_neg e]; exact hs
    show f_X6_allNeeds_L11_b (f_X6_allNeeds_L11 m') _ _ M = _
    unfold f_X6_allNeeds_L11_b
    rw [nI_pred, if_neg (nI_pos (by omega)), m_has (by omega) (by omega), jb1_e, b2_if, jg_t (jin_nI (show j < 6 by omega) (by decide)), nI_clamp (show j < 2 ^ 31 by omega), (h.2.2.1 j (by omega)).2.2]
    have e : (if s.testBit j = true then some (nI (q 3 j)) else some (0 : Int32)) = some (nI (if s.testBit j = true then q 3 j else 0)) := by cases s.testBit j <;> rfl
    rw [e, jb1_e, jlet_e, jlet_e, jor]
    have e2 : s ||| (if s.testBit j = true then q 3 j else 0) = if s.testBit j = true then s ||| q 3 j else s := by
      by_cases w : s.testBit j = true
      · rw [if_pos w, if_pos w]
      · rw [if_neg w, if_neg w, Nat.or_zero]
    rw [e2, show nI j + (-1) = nI j - 1 from (Int32.sub_eq_add_neg ..).symm]
    exact m_allnL hq h j m' _ (by omega) (by omega) e6
theorem m_alln (hq : okP q) (h : hM q M) {i : Nat} (hi : i < q 0 0) : f_X6_allNeeds (nI i) M = some (nI (mc q i)) := by
  have h6 := hq.1
  unfold f_X6_allNeeds
  rw [jg_t (jin_nI (show i < 6 by omega) (by decide)), jlet_e, jlet_e, nI_clamp (show i < 2 ^ 31 by omega), (h.2.2.1 i hi).2.2, m_allnL hq h i jfu _ (by omega) (by unfold jfu; omega) (q3_lt hq hi)]
  rfl
def dfc (q c : Nat → Nat → Nat) (i w : Nat) : Int32 := if w = 0 then nI (q 1 i) else if w = 1 then nI (q 2 i) else if w = 2 then nI (q 3 i) else if w = 3 then b2 ((vec q c (c 1 0) 3).testBit i) else nI (mc q i)
theorem x_dfc (H : CX q c M) {i w : Nat} (hi : i < q 0 0) (hw : w < 5) : f_X5_deedFact (nI i) (nI w) M = some (dfc q c i w) := by
  have b := vbd H.1 H.2.2.1
  obtain ⟨a1, a2, a3, a4, a5, a6⟩ := H.2.1.2.2.1 i hi
  unfold f_X5_deedFact
  simp only [jg_t (jin_nI (show i < 6 by omega) (by decide)), nI_clamp (show i < 2 ^ 31 by omega), a1, a2, a3, a4, x10 H, x_isIn (M := M) (show vec q c (c 1 0) 3 < 2 ^ 31 by omega) (show i < 31 by omega), jb1_e, b2_if]
  have e : (if (vec q c (c 1 0) 3).testBit i = true then some (1 : Int32) else some 0) = some (b2 ((vec q c (c 1 0) 3).testBit i)) := by cases (vec q c (c 1 0) 3).testBit i <;> rfl
  rw [e]
  rcases (show w = 0 ∨ w = 1 ∨ w = 2 ∨ w = 3 ∨ w = 4 by omega) with rfl | rfl | rfl | rfl | rfl <;> rfl
theorem m_dfc (H : CM q c M) {i w : Nat} (hi : i < q 0 0) (hw : w < 5) : f_X6_deedOf (nI i) (nI w) M = some (dfc q c i w) := by
  have b := vbd H.1 H.2.2.1
  obtain ⟨a1, a2, a3⟩ := H.2.1.2.2.1 i hi
  unfold f_X6_deedOf
  simp only [jg_t (jin_nI (show i < 6 by omega) (by decide)), nI_clamp (show i < 2 ^ 31 by omega), a1, a2, a3, m12_3 H, jand1 (show vec q c (c 1 0) 3 < 2 ^ 31 by omega) (show i < 31 by omega), jb1_e, m_alln H.1 H.2.1 hi]
  rcases (show w = 0 ∨ w = 1 ∨ w = 2 ∨ w = 3 ∨ w = 4 by omega) with rfl | rfl | rfl | rfl | rfl <;> rfl
theorem j5 {x : Int32} (h : x < 0 ∨ nI 5 ≤ x) : x < 0 ∨ (¬ x < 0 ∧ ¬ x < 5) := by
  by_cases h1 : x < 0
  · exact Or.inl h1
  · exact Or.inr ⟨h1, Int32.not_lt.mpr (h.resolve_left h1)⟩
theorem s_deed : kS_deed (Rl Q1) := by
  intro a1 a2 Mx Mm R
  obtain ⟨q, c, H⟩ := R.2.2.2
  unfold f_X5_deed f_X6_deed
  rcases jdeed q H.1 a1 0 (Or.inl rfl) with b | ⟨i, hi, rfl⟩
  · rw [x_hd_f H.2.1 b, m_hd_f H.1 H.2.2.1 b]
    exact ⟨-1, Mx, Mm, rfl, rfl, R⟩
  · rw [x_hd_t H.1 H.2.1 hi, jb1_e, if_neg j10, m_hd_t H.1 H.2.2.1 hi, jb1_e, if_neg j10]
    rcases jcase a2 5 (by decide) with b | ⟨w, hw, rfl⟩
    · rw [m_in0_f (hi := 4) (n := 4) rfl b (by decide), jb1_e, if_pos j00]
      rcases j5 b with b | ⟨b1, b2⟩
      · rw [if_pos b]; exact ⟨-1, Mx, Mm, rfl, rfl, R⟩
      · rw [if_neg b1, if_neg b2]; exact ⟨-1, Mx, Mm, rfl, rfl, R⟩
    · rw [m_in0_t (hi := 4) (j := w) (n := 4) rfl (by omega) (by decide), jb1_e, if_neg j10, if_neg (nI_pos (by omega)), show (5 : Int32) = nI 5 from rfl, if_pos (nI_lt hw (by decide)), x_dfc (H_cx H) hi hw, m_dfc (H_cm H) hi hw, jb1_e, jb1_e]
      exact ⟨1, _, _, rfl, rfl, rl_tell Q1_stay R _⟩
def hfc (q c : Nat → Nat → Nat) (h w : Nat) : Int32 := if w = 0 then nI (q 4 h) else if w = 1 then b2 (ngt (q 4 h)) else if w = 2 then nI (cmg q c h) else if w = 3 then nI (whr q c (vec q c (c 1 0)) h) else dI (vec q c (c 1 0) (5 + h))
theorem jb2s (b : Bool) : (if b = true then some (1 : Int32) else some 0) = some (b2 b) := by cases b <;> rfl
theorem x_hfc (H : CX q c M) {h w : Nat} (hh : h < q 0 1) (hw : w < 5) : f_X5_hourFact (nI h) (nI w) M = some (hfc q c h w) := by
  have b := vbd H.1 H.2.2.1
  obtain ⟨a1, a2, a3⟩ := H.2.1.2.2.2 h hh
  have a4 : gi M 44 h = _ := H.2.2.2.2.2.2.2 h (by omega)
  unfold f_X5_hourFact
  simp only [jg_t (jin_nI (show h < 7 by omega) (by decide)), nI_clamp (show h < 2 ^ 31 by omega), a1, a4, x_night H.1 H.2.1 hh, x_comes H hh, x_where H hh, jb1_e, b2_if, jb2s]
  rcases (show w = 0 ∨ w = 1 ∨ w = 2 ∨ w = 3 ∨ w = 4 by omega) with rfl | rfl | rfl | rfl | rfl <;> rfl
theorem m_hfc (H : CM q c M) {h w : Nat} (hh : h < q 0 1) (hw : w < 5) : f_X6_hourOf (nI h) (nI w) M = some (hfc q c h w) := by
  have b := vbd H.1 H.2.2.1
  obtain ⟨a1, a2, a3⟩ := H.2.1.2.2.2 h hh
  have a4 : gi M 12 (5 + h) = enc (5 + h) (vec q c (c 1 0) (5 + h)) := H.2.2.2.2.1 (5 + h) (by omega) (Or.inr (fun w => by have := H.1.2.2.1 w; omega))
  have a5 : enc (5 + h) (vec q c (c 1 0) (5 + h)) = dI (vec q c (c 1 0) (5 + h)) := if_neg (by omega)
  have a6 : (5 : Int32) + nI h = nI (5 + h) := nI_add 5 h
  unfold f_X6_hourOf
  simp only [a6, jg_t (jin_nI (show h < 7 by omega) (by decide)), jg_t (jin_nI (show 5 + h < 12 by omega) (by decide)), nI_clamp (show h < 2 ^ 31 by omega), nI_clamp (show 5 + h < 2 ^ 31 by omega), a1, a4, a5, m_night H.1 H.2.1 hh, m_comes H hh, m_where H hh, jb1_e, b2_if, jb2s]
  rcases (show w = 0 ∨ w = 1 ∨ w = 2 ∨ w = 3 ∨ w = 4 by omega) with rfl | rfl | rfl | rfl | rfl <;> rfl
theorem s_hour : kS_hour (Rl Q1) := by
  intro a1 a2 Mx Mm R
  obtain ⟨q, c, H⟩ := R.2.2.2
  unfold f_X5_hour f_X6_hour
  rcases jdeed q H.1 a1 1 (Or.inr rfl) with b | ⟨i, hi, rfl⟩
  · rw [x_hh_f H.2.1 b, m_hh_f H.1 H.2.2.1 b]
    exact ⟨-1, Mx, Mm, rfl, rfl, R⟩
  · rw [x_hh_t H.1 H.2.1 hi, jb1_e, if_neg j10, m_hh_t H.1 H.2.2.1 hi, jb1_e, if_neg j10]
    rcases jcase a2 5 (by decide) with b | ⟨w, hw, rfl⟩
    · rw [m_in0_f (hi := 4) (n := 4) rfl b (by decide), jb1_e, if_pos j00]
      rcases j5 b with b | ⟨b1, b2⟩
      · rw [if_pos b]; exact ⟨-1, Mx, Mm, rfl, rfl, R⟩
      · rw [if_neg b1, if_neg b2]; exact ⟨-1, Mx, Mm, rfl, rfl, R⟩
    · rw [m_in0_t (hi := 4) (j := w) (n := 4) rfl (by omega) (by decide), jb1_e, if_neg j10, if_neg (nI_pos (by omega)), show (5 : Int32) = nI 5 from rfl, if_pos (nI_lt hw (by decide)), x_hfc (H_cx H) hi hw, m_hfc (H_cm H) hi hw, jb1_e, jb1_e]
      exact ⟨1, _, _, rfl, rfl, rl_tell Q1_stay R _⟩
theorem jd0 (hq : okP q) (x y : Option (Int32 × jM)) : (if nI (q 0 0) = 0 then x else y) = if q 0 0 = 0 then x else y := by
  have := hq.1
  rcases (show q 0 0 = 0 ∨ q 0 0 ≠ 0 by omega) with e | e
  · rw [if_pos e, if_pos (by rw [e]; rfl)]
  · rw [if_neg (nI_ne0 (by omega) (by omega)), if_neg e]
theorem cx_told (H : CX q c M) (k : Nat) (v : Int32) : CX q c (si M 0 k v) := ⟨H.1, hX_st (stX_si (by decide)) H.2.1, H.2.2.1, cX_st (stX_si (by decide)) H.2.2.2⟩
theorem s_shelf : kS_shelf (Rl Q1) := by
  intro Mx Mm R
  obtain ⟨q, c, H⟩ := R.2.2.2
  have b := vbd H.1 H.2.2.2.1
  unfold f_X5_shelf f_X6_shelf
  rw [H.2.1.1, H.2.2.1.1, jd0 H.1, jd0 H.1]
  by_cases e : q 0 0 = 0
  · rw [if_pos e, if_pos e]; exact ⟨_, Mx, Mm, rfl, rfl, R⟩
  · rw [if_neg e, if_neg e, jlet_e, x_shelf (cx_told (H_cx H) 10 _), jb1_e, m12_0 (H_cm H), m_shelf (H_cm H) (by omega), jb1_e, x7 (H_cx H)]
    exact ⟨_, _, _, rfl, rfl, rl_tell Q1_stay R _⟩
def cns (q c : Nat → Nat → Nat) (h : Nat) : Nat := bts (fun i => decide (hin q i h (vec q c (c 1 0) 3) (vec q c (c 1 0) 4) = 0)) (q 0 0)
theorem x_hinC (H : CX q c M) {i h : Nat} (hi : i < q 0 0) (hh : h < q 0 1) : f_X0_hindrance (nI i) (nI h) M = some (nI (hin q i h (vec q c (c 1 0) 3) (vec q c (c 1 0) 4))) := by
  have b := vbd H.1 H.2.2.1
  unfold f_X0_hindrance
  rw [x10 H, x11 H, x_hin H.1 H.2.1 hi hh (by omega) (by omega)]; rfl
theorem m_canC (H : CM q c M) {i h : Nat} (hi : i < q 0 0) (hh : h < q 0 1) : f_X6_canNow (nI i) (nI h) M = some (b2 (decide (hin q i h (vec q c (c 1 0) 3) (vec q c (c 1 0) 4) = 0))) := by
  have b := vbd H.1 H.2.2.1
  unfold f_X6_canNow
  rw [m12_3 H, m12_4 H, m_can H.1 H.2.1 hi hh (by omega) (by omega), jb1_e, jg_t (b2_g _)]
theorem hin_le (i h d s : Nat) : hin q i h d s ≤ 4 := by
  unfold hin
  split
  · omega
  · split
    · split
      · split <;> omega
      · omega
    · omega
theorem jzn {α : Type} {n : Nat} (h : n < 2 ^ 31) (x y : α) : (if nI n = 0 then x else y) = if decide (n = 0) = true then x else y := by
  rcases (show n = 0 ∨ n ≠ 0 by omega) with rfl | e
  · rfl
  · rw [if_neg (nI_ne0 (by omega) h), if_neg (by simp [e])]
theorem x_canB (H : CX q c M) {h : Nat} (hh : h < q 0 1) : f_X0_deedsFor (nI h) M = some (nI (cns q c h)) := by
  have b := vbd H.1 H.2.2.1
  have hl : f_X0_deedsFor_L4 jfu (nI h) 0 0 M = some (nI (cns q c h), nI (q 0 0)) := by
    refine jloop0 (L := fun m (s : Int32 × Int32) => f_X0_deedsFor_L4 m (nI h) s.1 s.2 M) (S := fun k => (nI (bts (fun i => decide (hin q i h (vec q c (c 1 0) 3) (vec q c (c 1 0) 4) = 0)) k), nI k)) (n := q 0 0) (by unfold jfu; omega) ?_ ?_
    · intro m k hk
      show f_X0_deedsFor_L4_b (f_X0_deedsFor_L4 m) (nI h) _ (nI k) M = f_X0_deedsFor_L4 m (nI h) _ (nI (k + 1)) M
      have e := hin_le (q := q) k h (vec q c (c 1 0) 3) (vec q c (c 1 0) 4)
      unfold f_X0_deedsFor_L4_b
      rw [H.2.1.1, if_neg (nI_ge hk (by omega)), x_hinC H hk hh, jb1_e, jlet_e, jlet_e, jlet_e, nI_1, jzn (by omega), jshl k (by omega), jacc rfl]
    · intro m
      show f_X0_deedsFor_L4_b (f_X0_deedsFor_L4 m) (nI h) _ (nI (q 0 0)) M = _
      unfold f_X0_deedsFor_L4_b
      rw [H.2.1.1, if_pos (nI_le (Nat.le_refl _) (by omega))]; rfl
  unfold f_X0_deedsFor
  rw [hl]; rfl
theorem m_canB (H : CM q c M) {h : Nat} (hh : h < q 0 1) : f_X6_can (nI h) M = some (nI (cns q c h)) := by
  have b := vbd H.1 H.2.2.1
  have hl : f_X6_can_L14 jfu (nI h) 0 0 M = some (nI (cns q c h), nI (q 0 0)) := by
    refine jloop0 (L := fun m (s : Int32 × Int32) => f_X6_can_L14 m (nI h) s.1 s.2 M) (S := fun k => (nI (bts (fun i => decide (hin q i h (vec q c (c 1 0) 3) (vec q c (c 1 0) 4) = 0)) k), nI k)) (n := q 0 0) (by unfold jfu; omega) ?_ ?_
    · intro m k hk
      show f_X6_can_L14_b (f_X6_can_L14 m) (nI h) _ (nI k) M = f_X6_can_L14 m (nI h) _ (nI (k + 1)) M
      unfold f_X6_can_L14_b
      rw [H.2.1.1, if_neg (nI_ge hk (by omega)), m_canC H hk hh, jb1_e, jlet_e, jlet_e, jlet_e, nI_1, b2_if, jshl k (by omega), jacc rfl]
    · intro m
      show f_X6_can_L14_b (f_X6_can_L14 m) (nI h) _ (nI (q 0 0)) M = _
      unfold f_X6_can_L14_b
      rw [H.2.1.1, if_pos (nI_le (Nat.le_refl _) (by omega))]; rfl
  unfold f_X6_can
  rw [m_hh_t H.1 H.2.1 hh, jb1_e, if_neg j10, hl]; rfl
theorem s_can : kS_can (Rl Q1) := by
  intro a1 Mx Mm R
  obtain ⟨q, c, H⟩ := R.2.2.2
  unfold f_X5_can
  rcases jdeed q H.1 a1 1 (Or.inr rfl) with b | ⟨i, hi, rfl⟩
  · unfold f_X6_can
    rw [x_hh_f H.2.1 b, m_hh_f H.1 H.2.2.1 b]
    exact ⟨-1, rfl, rfl⟩
  · rw [x_hh_t H.1 H.2.1 hi, jb1_e, if_neg j10, x_canB (H_cx H) hi, m_canB (H_cm H) hi]
    exact ⟨_, rfl, rfl⟩
end JD
