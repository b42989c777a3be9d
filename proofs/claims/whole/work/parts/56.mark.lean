/-! mark, route, count -/
section JF
variable {q c : Nat → Nat → Nat} {M Mx Mm : jM}
theorem x_hfor (H : CX q c M) {i : Nat} (hi : i < q 0 0) : f_X5_hoursFor (nI i) M = some (nI (cnt (fun h => (shf q c (vec q c (c 1 0)) (vec q c (c 1 0) 0)).testBit h && decide (hin q i h (vec q c (c 1 0) 3) (vec q c (c 1 0) 4) = 0)) (q 0 1))) := by
  have b := vbd H.1 H.2.2.1
  have hs := shf_lt (c := c) (v := vec q c (c 1 0)) (d := vec q c (c 1 0) 0) H.1
  unfold f_X5_hoursFor
  rw [x_shelf H, jb1_e]
  have hl : f_X5_hoursFor_L13 jfu (nI i) (nI (shf q c (vec q c (c 1 0)) (vec q c (c 1 0) 0))) 0 0 M = some (nI (cnt (fun h => (shf q c (vec q c (c 1 0)) (vec q c (c 1 0) 0)).testBit h && decide (hin q i h (vec q c (c 1 0) 3) (vec q c (c 1 0) 4) = 0)) (q 0 1)), nI (q 0 1)) := by
    refine jloop0 (L := fun m (s : Int32 × Int32) => f_X5_hoursFor_L13 m (nI i) (nI (shf q c (vec q c (c 1 0)) (vec q c (c 1 0) 0))) s.1 s.2 M) (S := fun k => (nI (cnt (fun h => (shf q c (vec q c (c 1 0)) (vec q c (c 1 0) 0)).testBit h && decide (hin q i h (vec q c (c 1 0) 3) (vec q c (c 1 0) 4) = 0)) k), nI k)) (n := q 0 1) (by unfold jfu; omega) ?_ ?_
    · intro m k hk
      show f_X5_hoursFor_L13_b (f_X5_hoursFor_L13 m) (nI i) _ _ (nI k) M = f_X5_hoursFor_L13 m (nI i) _ _ (nI (k + 1)) M
      have e := hin_le (q := q) i k (vec q c (c 1 0) 3) (vec q c (c 1 0) 4)
      unfold f_X5_hoursFor_L13_b
      rw [H.2.1.2.1, if_neg (nI_ge hk (by omega)), x_isIn (by omega) (by omega), jb1_e, b2_if, x_hinC H hi hk, jb1_e, jzn (by omega), jb2s]
      have e2 : (if (shf q c (vec q c (c 1 0)) (vec q c (c 1 0) 0)).testBit k = true then some (b2 (decide (hin q i k (vec q c (c 1 0) 3) (vec q c (c 1 0) 4) = 0))) else some (0 : Int32)) = some (b2 ((shf q c (vec q c (c 1 0)) (vec q c (c 1 0) 0)).testBit k && decide (hin q i k (vec q c (c 1 0) 3) (vec q c (c 1 0) 4) = 0))) := by
        cases (shf q c (vec q c (c 1 0)) (vec q c (c 1 0) 0)).testBit k <;> rfl
      rw [e2, jb1_e, jlet_e, jlet_e, nI_1, jcac rfl]
    · intro m
      show f_X5_hoursFor_L13_b (f_X5_hoursFor_L13 m) (nI i) _ _ (nI (q 0 1)) M = _
      unfold f_X5_hoursFor_L13_b
      rw [H.2.1.2.1, if_pos (nI_le (Nat.le_refl _) (by omega))]
  rw [hl]; rfl
theorem x_hlit (hq : okP q) (hx : hX q M) {i : Nat} (hi : i < q 0 0) : f_X2_hoursOfLightFor (nI i) M = some (nI (cnt (fun h => lit q i h) (q 0 1))) := by
  have h7 := hq.2.1
  have hl : f_X2_hoursOfLightFor_L4 jfu (nI i) 0 0 M = some (nI (cnt (fun h => lit q i h) (q 0 1)), nI (q 0 1)) := by
    refine jloop0 (L := fun m (s : Int32 × Int32) => f_X2_hoursOfLightFor_L4 m (nI i) s.1 s.2 M) (S := fun k => (nI (cnt (fun h => lit q i h) k), nI k)) (n := q 0 1) (by unfold jfu; omega) ?_ ?_
    · intro m k hk
      show f_X2_hoursOfLightFor_L4_b (f_X2_hoursOfLightFor_L4 m) (nI i) _ (nI k) M = f_X2_hoursOfLightFor_L4 m (nI i) _ (nI (k + 1)) M
      unfold f_X2_hoursOfLightFor_L4_b
      rw [hx.2.1, if_neg (nI_ge hk (by omega)), x_light hq hx hi hk, jb1_e, jlet_e, jlet_e, jlet_e, nI_1, jb2i, jcac rfl]
    · intro m
      show f_X2_hoursOfLightFor_L4_b (f_X2_hoursOfLightFor_L4 m) (nI i) _ (nI (q 0 1)) M = _
      unfold f_X2_hoursOfLightFor_L4_b
      rw [hx.2.1, if_pos (nI_le (Nat.le_refl _) (by omega))]
  unfold f_X2_hoursOfLightFor
  rw [hl]; rfl
/-- what the reference counts over the hours -/
def mkf (q c : Nat → Nat → Nat) (i k h : Nat) : Bool := (decide (k = 2) && ((shf q c (vec q c (c 1 0)) (vec q c (c 1 0) 0)).testBit h && decide (hin q i h (vec q c (c 1 0) 3) (vec q c (c 1 0) 4) = 0))) || (decide (k = 5) && lit q i h)
theorem m_mk1 (H : CM q c M) {i k : Nat} (hi : i < q 0 0) (hk : k < 6) : f_X6_mark_L58 jfu (nI i) (nI k) (nI (shf q c (vec q c (c 1 0)) (vec q c (c 1 0) 0))) 0 0 M = some (nI (cnt (mkf q c i k) (q 0 1)), nI (q 0 1)) := by
  have b := vbd H.1 H.2.2.1
  have hs := shf_lt (c := c) (v := vec q c (c 1 0)) (d := vec q c (c 1 0) 0) H.1
  refine jloop0 (L := fun m (s : Int32 × Int32) => f_X6_mark_L58 m (nI i) (nI k) (nI (shf q c (vec q c (c 1 0)) (vec q c (c 1 0) 0))) s.1 s.2 M) (S := fun z => (nI (cnt (mkf q c i k) z), nI z)) (n := q 0 1) (by unfold jfu; omega) ?_ ?_
  · intro m z hz
    show f_X6_mark_L58_b (f_X6_mark_L58 m) (nI i) (nI k) _ _ (nI z) M = f_X6_mark_L58 m (nI i) (nI k) _ _ (nI (z + 1)) M
    unfold f_X6_mark_L58_b
    simp only [H.2.1.2.1, if_neg (nI_ge hz (show q 0 1 < 2 ^ 31 by omega)), m_has (M := M) (show shf q c (vec q c (c 1 0)) (vec q c (c 1 0) 0) < 2 ^ 31 by omega) (show z < 31 by omega), jb1_e, b2_if, m_canC H hi hz, m_light H.1 H.2.1 hi hz, jb2s]
    have e1 : ((nI k = 2) = (decide (k = 2) = true)) := by
      by_cases e : k = 2
      · subst e; simp; rfl
      · simp [e]; exact fun w => e ((nI_eq (b := 2) (by omega) (by decide)).mp w)
    have e2 : ((nI k = 5) = (decide (k = 5) = true)) := by
      by_cases e : k = 5
      · subst e; simp; rfl
      · simp [e]; exact fun w => e ((nI_eq (b := 5) (by omega) (by decide)).mp w)
    simp only [e1, e2]
    have e3 : (if decide (k = 2) = true then (if (shf q c (vec q c (c 1 0)) (vec q c (c 1 0) 0)).testBit z = true then (if decide (hin q i z (vec q c (c 1 0) 3) (vec q c (c 1 0) 4) = 0) = true then some (1 : Int32) else (if decide (k = 5) = true then some (b2 (lit q i z)) else some 0)) else (if decide (k = 5) = true then some (b2 (lit q i z)) else some 0)) else (if decide (k = 5) = true then some (b2 (lit q i z)) else some 0)) = some (b2 (mkf q c i k z)) := by
      unfold mkf
      cases decide (k = 2) <;> cases (shf q c (vec q c (c 1 0)) (vec q c (c 1 0) 0)).testBit z <;> cases decide (hin q i z (vec q c (c 1 0) 3) (vec q c (c 1 0) 4) = 0) <;> cases decide (k = 5) <;> cases lit q i z <;> rfl
    rw [e3, jb1_e, jlet_e, jlet_e, nI_1, jcac rfl]
  · intro m
    show f_X6_mark_L58_b (f_X6_mark_L58 m) (nI i) (nI k) _ _ (nI (q 0 1)) M = _
    unfold f_X6_mark_L58_b
    rw [H.2.1.2.1, if_pos (nI_le (Nat.le_refl _) (by omega))]
theorem m_mk2 (hq : okP q) (hm : hM q M) {i a : Nat} (hi : i < q 0 0) : f_X6_mark_L125 jfu (nI i) 3 (nI a) 0 M = some (nI (a + cnt (fun k => (q 3 k).testBit i) (q 0 0)), nI (q 0 0)) := by
  have h6 := hq.1
  refine jloop0 (L := fun m (s : Int32 × Int32) => f_X6_mark_L125 m (nI i) 3 s.1 s.2 M) (S := fun k => (nI (a + cnt (fun k => (q 3 k).testBit i) k), nI k)) (n := q 0 0) (by unfold jfu; omega) ?_ ?_
  · intro m k hk
    show f_X6_mark_L125_b (f_X6_mark_L125 m) (nI i) 3 _ (nI k) M = f_X6_mark_L125 m (nI i) 3 _ (nI (k + 1)) M
    unfold f_X6_mark_L125_b
    rw [hm.1, if_neg (nI_ge hk (by omega)), if_pos rfl, jg_t (jin_nI (show k < 6 by omega) (by decide)), nI_clamp (show k < 2 ^ 31 by omega), (hm.2.2.1 k hk).2.2, m_has (by have := q3_lt hq hk; omega) (by omega), jb1_e, jlet_e, jlet_e, jlet_e, nI_1, jb2i]
    have e : nI (a + cnt (fun k => (q 3 k).testBit i) k) + b2 ((q 3 k).testBit i) = nI (a + cnt (fun k => (q 3 k).testBit i) (k + 1)) := by
      rw [← nI_add, ← nI_add, Int32.add_assoc, jcac rfl]
    rw [e]
  · intro m
    show f_X6_mark_L125_b (f_X6_mark_L125 m) (nI i) 3 _ (nI (q 0 0)) M = _
    unfold f_X6_mark_L125_b
    rw [hm.1, if_pos (nI_le (Nat.le_refl _) (by omega))]
theorem m_mk3 (hq : okP q) (hm : hM q M) {i : Nat} {k a : Int32} (hk : ¬ k = 3) : f_X6_mark_L125 jfu (nI i) k a 0 M = some (a, 0) := by
  have h6 := hq.1
  show f_X6_mark_L125_b (f_X6_mark_L125 29999) (nI i) k a 0 M = _
  unfold f_X6_mark_L125_b
  rw [if_neg hk]
  split <;> rfl
theorem cnt_0 : ∀ k, cnt (fun _ => false) k = 0
  | 0 => rfl
  | k + 1 => cnt_0 k
theorem s_mark : kS_mark (Rl Q1) := by
  intro a1 a2 Mx Mm R
  obtain ⟨q, c, H⟩ := R.2.2.2
  have b := vbd H.1 H.2.2.2.1
  unfold f_X5_mark f_X6_mark
  rcases jdeed q H.1 a1 0 (Or.inl rfl) with b | ⟨i, hi, rfl⟩
  · rw [x_hd_f H.2.1 b, m_hd_f H.1 H.2.2.1 b]
    exact ⟨-1, Mx, Mm, rfl, rfl, R⟩
  · rw [x_hd_t H.1 H.2.1 hi, jb1_e, if_neg j10, m_hd_t H.1 H.2.2.1 hi, jb1_e, if_neg j10]
    by_cases w1 : a2 < 1
    · rw [if_pos w1, m_in_f (Or.inl (by rw [show (1 : Int64) = (1 : Int32).toInt64 from rfl, jw_lt]; exact w1))]
      exact ⟨-1, Mx, Mm, rfl, rfl, R⟩
    · by_cases w5 : a2 ≤ 5
      · obtain ⟨k, hk, rfl⟩ := nI_of2 (x := a2) (M := 5) (n := 5) rfl (fun w => w1 (by rw [Int32.lt_iff_toInt_lt] at w ⊢; have e1 : (0 : Int32).toInt = 0 := rfl; have e2 : (1 : Int32).toInt = 1 := rfl; omega)) w5
        have hk1 : 1 ≤ k := by
          rcases (show k = 0 ∨ 1 ≤ k by omega) with rfl | e
          · exact absurd (by decide) w1
          · exact e
        rw [if_neg w1, if_pos w5, m_in_t (by rw [show (1 : Int64) = (1 : Int32).toInt64 from rfl, jw_lt]; exact w1) (by rw [show (5 : Int64) = (5 : Int32).toInt64 from rfl, jw_lt]; exact Int32.not_lt.mpr w5), jb1_e, if_neg j10, x_kind H.1 H.2.1 hi hk, jb1_e, b2_if, jg_t (jin_nI (show i < 6 by omega) (by decide)), nI_clamp (show i < 2 ^ 31 by omega), (H.2.2.1.2.2.1 i hi).1, m_isKind (H.1.2.2.2.1 i hi).1 hk, jb1_e, b2_if]
        cases isk (q 1 i) k with
        | false =>
          rw [if_neg Bool.false_ne_true, if_neg Bool.false_ne_true, show (3 : Int32) = nI 3 from rfl, x_find (by decide), m_find (by decide)]
          exact ⟨-3, _, _, rfl, rfl, rl_find Q1_stay R (by decide)⟩
        | true =>
          rw [if_pos rfl, if_pos rfl, m12_0 (H_cm H), m_shelf (H_cm H) (by omega), jb1_e, m_mk1 (H_cm H) hi (by omega), jb2_e]
          rcases (show k = 1 ∨ k = 2 ∨ k = 3 ∨ k = 4 ∨ k = 5 by omega) with rfl | rfl | rfl | rfl | rfl
          · rw [m_mk3 H.1 H.2.2.1 (by decide), x11 (H_cx H), m12_4 (H_cm H)]
            exact ⟨_, Mx, Mm, rfl, rfl, R⟩
          · rw [m_mk3 H.1 H.2.2.1 (by decide), x_hfor (H_cx H) hi]
            refine ⟨_, Mx, Mm, rfl, ?_, R⟩
            show some (nI (cnt (mkf q c i 2) (q 0 1)), Mm) = _
            exact congrArg (fun z => some (nI z, Mm)) (cnt_cg fun h _ => by unfold mkf; simp)
          · rw [show (nI 3 : Int32) = 3 from rfl, m_mk2 H.1 H.2.2.1 hi, x_nby (w := q 3) H.1 H.2.1 (fun k hk => ⟨(H.2.1.2.2.1 k hk).2.2.1, q3_lt H.1 hk⟩) hi, jb1_e, x_bc (bts_128 (by omega)), pc_bts (by omega)]
            refine ⟨_, Mx, Mm, rfl, ?_, R⟩
            show some (nI (cnt (mkf q c i 3) (q 0 1) + _), Mm) = _
            rw [cnt_cg (f := mkf q c i 3) (g := fun _ => false) (fun h _ => by unfold mkf; simp), cnt_0, Nat.zero_add]
          · rw [m_mk3 H.1 H.2.2.1 (by decide), x10 (H_cx H), x_company H.1 H.2.1 hi (by omega), m12_3 (H_cm H), jb2_e, jg_t (jin_nI (show i < 6 by omega) (by decide)), (H.2.2.1.2.2.1 i hi).2.2, jdif (by omega) (by have := q3_lt H.1 hi; omega), m_on (dif_lt (by omega))]
            exact ⟨_, Mx, Mm, rfl, rfl, R⟩
          · rw [m_mk3 H.1 H.2.2.1 (by decide), x_hlit H.1 H.2.1 hi]
            refine ⟨_, Mx, Mm, rfl, ?_, R⟩
            show some (nI (cnt (mkf q c i 5) (q 0 1)), Mm) = _
            exact congrArg (fun z => some (nI z, Mm)) (cnt_cg fun h _ => by unfold mkf; simp)
      · rw [if_neg w1, if_neg w5, m_in_f (Or.inr (by rw [show (5 : Int64) = (5 : Int32).toInt64 from rfl, jw_lt]; exact Int32.not_le.mp w5))]
        exact ⟨-1, Mx, Mm, rfl, rfl, R⟩
end JF
