/-! diary, forged -/
section JI
variable {q c : Nat → Nat → Nat} {M Mx Mm : jM}
/-- a row in a house, or why not: both sides alike -/
theorem hs_rows (R : Rl Q1 Mx Mm) (a1 : Int32) : (∃ (r : Int32) (Mx' Mm' : jM), f_X5_refusalInHouse a1 Mx = some (r, Mx') ∧ ¬ r = 0 ∧ ((r = -1 ∧ Mm' = Mm ∧ f_X6_isRow a1 Mm = some 0) ∨ (f_X6_isRow a1 Mm = some 1 ∧ f_X6_lacksRow a1 Mm = some (r, Mm') ∧ ¬ 0 ≤ r)) ∧ Rl Q1 Mx' Mm') ∨ (∃ j n : Nat, j < 6 ∧ n ≤ 40 ∧ a1 = nI j ∧ gi Mx 2 j = nI n ∧ gi Mm 1 j = nI n ∧ f_X5_refusalInHouse a1 Mx = some (0, Mx) ∧ f_X6_isRow a1 Mm = some 1 ∧ f_X6_lacksRow a1 Mm = some (0, Mm)) := by
  obtain ⟨q, c, H⟩ := R.2.2.2
  unfold f_X5_refusalInHouse f_X6_lacksRow
  rcases jcase a1 6 (by decide) with b | ⟨j, hj, rfl⟩
  · left
    rw [x_knowsa_f b, jb1_e, if_pos j00, x_refa_bad b, m_isRow_f b]
    exact ⟨-1, Mx, Mm, rfl, by decide, Or.inl ⟨rfl, rfl, rfl⟩, R⟩
  · rw [x_knowsa_t hj, jb1_e, if_neg j10, m_isRow_t hj, H.2.1.1, H.2.2.1.1, jd0 H.1, jd0 H.1]
    by_cases e : q 0 0 = 0
    · rw [if_pos e, if_pos e]
      exact Or.inl ⟨-4, Mx, Mm, rfl, by decide, Or.inr ⟨rfl, rfl, by decide⟩, R⟩
    · rw [if_neg e, if_neg e, jg_t (jin_nI hj (by decide)), nI_clamp (show j < 2 ^ 31 by omega)]
      obtain ⟨e1, e2, e3⟩ := R.2.1 j hj
      rcases e2 with e2 | ⟨n, hn, e2⟩
      · left
        rw [x_refa_no hj e2, jb2_e, ← e1, e2, if_neg m1_neg, show (1 : Int32) = nI 1 from rfl, m_find (by decide), jb2_e]
        exact ⟨-3, _, _, rfl, by decide, Or.inr ⟨rfl, rfl, by decide⟩, rl_find Q1_stay R (by decide)⟩
      · right
        rw [x_refa_ok hj (by omega) e2, jb2_e, ← e1, e2, if_pos (nI_pos' (by omega))]
        exact ⟨j, n, hj, hn, rfl, e2, e1.symm.trans e2, rfl, rfl, rfl⟩
theorem jtime (x : Int32) : (x < 0 ∨ nI 24 ≤ x) ∨ ∃ t, t < 24 ∧ x = nI t := jcase x 24 (by decide)
/-- the times of a diary -/
theorem di_loop (R : Rl Q1 Mx Mm) {j n : Nat} (hj : j < 6) (hn : n ≤ 40) (hx : gi Mx 2 j = nI n) (hm : gi Mm 1 j = nI n) : ∀ (r k m : Nat), k + r = n → r < m → (∃ Mx' Mm', f_X5_diaryRefusal_L34 m (nI j) (nI k) Mx = some (.inl (-3, Mx')) ∧ f_X6_lacksDiary_L31 m (nI j) (nI k) Mm = some (.inl (-3, Mm')) ∧ Rl Q1 Mx' Mm') ∨ (f_X5_diaryRefusal_L34 m (nI j) (nI k) Mx = some (.inr (nI n, Mx)) ∧ f_X6_lacksDiary_L31 m (nI j) (nI k) Mm = some (.inr (nI n, Mm)))
  | 0, k, m, hk, hm' => by
    obtain ⟨m', rfl⟩ : ∃ m', m = m' + 1 := ⟨m - 1, by omega⟩
    have e : k = n := by omega
    subst e
    right
    constructor
    · show f_X5_diaryRefusal_L34_b (f_X5_diaryRefusal_L34 m') _ _ _ = _
      unfold f_X5_diaryRefusal_L34_b
      rw [jg_t (jin_nI hj (by decide)), nI_clamp (show j < 2 ^ 31 by omega), hx, if_pos (nI_le (Nat.le_refl _) (by omega))]
    · show f_X6_lacksDiary_L31_b (f_X6_lacksDiary_L31 m') _ _ _ = _
      unfold f_X6_lacksDiary_L31_b
      rw [jg_t (jin_nI hj (by decide)), nI_clamp (show j < 2 ^ 31 by omega), hm, if_pos (nI_le (Nat.le_refl _) (by omega))]
  | r + 1, k, m, hk, hm' => by
    obtain ⟨m', rfl⟩ : ∃ m', m = m' + 1 := ⟨m - 1, by omega⟩
    have e3 := (R.2.1 j hj).2.2 k (by omega)
    show (∃ Mx' Mm', f_X5_diaryRefusal_L34_b (f_X5_diaryRefusal_L34 m') (nI j) (nI k) Mx = _ ∧ f_X6_lacksDiary_L31_b (f_X6_lacksDiary_L31 m') (nI j) (nI k) Mm = _ ∧ _) ∨ (f_X5_diaryRefusal_L34_b (f_X5_diaryRefusal_L34 m') (nI j) (nI k) Mx = _ ∧ f_X6_lacksDiary_L31_b (f_X6_lacksDiary_L31 m') (nI j) (nI k) Mm = _)
    unfold f_X5_diaryRefusal_L34_b f_X6_lacksDiary_L31_b
    rw [jg_t (jin_nI hj (by decide)), jg_t (jin_nI hj (by decide)), jg_t (jin_nI hj (by decide)), nI_clamp (show j < 2 ^ 31 by omega), hx, hm, if_neg (nI_ge (show k < n by omega) (by omega)), if_neg (nI_ge (show k < n by omega) (by omega)), jg_t (jin_nI (show k < 40 by omega) (by decide)), nI_clamp (show k < 2 ^ 31 by omega), jlet_e, e40, jg_t (jin_nI (show 40 * j + k < 240 by omega) (by decide)), nI_clamp (show 40 * j + k < 2 ^ 31 by omega), ← e3, jlet_e, jlet_e, nI_1]
    rcases jtime (gi Mx (4 + j) k) with b | ⟨t, ht, e⟩
    · left
      rw [m_in0_f (hi := 23) (n := 23) rfl b (by decide), jb1_e, if_pos j00, show (3 : Int32) = nI 3 from rfl, x_find (by decide), m_find (by decide), jb2_e, jb2_e]
      by_cases b1 : gi Mx (4 + j) k < 0
      · rw [if_pos b1]
        exact ⟨_, _, rfl, rfl, rl_find Q1_stay R (by decide)⟩
      · rw [if_neg b1, if_neg (show ¬ gi Mx (4 + j) k < 24 from Int32.not_lt.mpr (b.resolve_left b1))]
        exact ⟨_, _, rfl, rfl, rl_find Q1_stay R (by decide)⟩
    · rw [e, m_in0_t (hi := 23) (j := t) (n := 23) rfl (by omega) (by decide), jb1_e, if_neg j10, if_neg (nI_pos (by omega)), if_pos (show nI t < 24 from nI_lt (b := 24) ht (by decide))]
      exact di_loop R hj hn hx hm r (k + 1) m' (by omega) (by omega)
theorem j7 {n : Nat} (h : n ≤ 40) {α : Type} (x y : α) : (if nI n ≤ 7 then x else y) = if n ≤ 7 then x else y := by
  by_cases e : n ≤ 7
  · rw [if_pos e, if_pos (show nI n ≤ 7 from nI_le (b := 7) e (by decide))]
  · rw [if_neg e, if_neg (show ¬ nI n ≤ 7 from fun w => e ((nI_leI (b := 7) (by omega) (by decide)).mp w))]
/-- a diary, or why not -/
theorem di_ok (R : Rl Q1 Mx Mm) (a1 : Int32) : (∃ (r : Int32) (Mx' Mm' : jM), f_X5_diaryRefusal a1 Mx = some (r, Mx') ∧ ¬ r = 0 ∧ ((r = -1 ∧ Mm' = Mm ∧ f_X6_isRow a1 Mm = some 0) ∨ (f_X6_isRow a1 Mm = some 1 ∧ f_X6_lacksDiary a1 Mm = some (r, Mm') ∧ ¬ 0 ≤ r)) ∧ Rl Q1 Mx' Mm') ∨ (∃ j n : Nat, j < 6 ∧ n ≤ 7 ∧ a1 = nI j ∧ gi Mx 2 j = nI n ∧ gi Mm 1 j = nI n ∧ f_X5_diaryRefusal a1 Mx = some (0, Mx) ∧ f_X6_isRow a1 Mm = some 1 ∧ f_X6_lacksDiary a1 Mm = some (0, Mm)) := by
  unfold f_X5_diaryRefusal f_X6_lacksDiary
  rcases hs_rows R a1 with ⟨r, Mx', Mm', h1, h2, h3, h4⟩ | ⟨j, n, hj, hn, rfl, hx, hm, h1, h2, h3⟩
  · left
    rw [h1, jb2_e, if_neg h2]
    refine ⟨r, Mx', Mm', rfl, h2, ?_, h4⟩
    rcases h3 with h3 | ⟨h5, h6, h7⟩
    · exact Or.inl h3
    · refine Or.inr ⟨h5, ?_, h7⟩
      rw [h6, jb2_e, if_neg h7]
  · rw [h1, jb2_e, if_pos j00, h3, jb2_e, if_pos (show (0 : Int32) ≤ 0 by decide), jg_t (jin_nI hj (by decide)), jg_t (jin_nI hj (by decide)), nI_clamp (show j < 2 ^ 31 by omega), hx, hm, j7 hn, j7 hn]
    by_cases e : n ≤ 7
    · rw [if_pos e, if_pos e]
      rcases di_loop R hj hn hx hm n 0 jfu (by omega) (by unfold jfu; omega) with ⟨Mx', Mm', e1, e2, e3⟩ | ⟨e1, e2⟩
      · left
        have e1 : f_X5_diaryRefusal_L34 jfu (nI j) 0 Mx = _ := e1
        have e2 : f_X6_lacksDiary_L31 jfu (nI j) 0 Mm = _ := e2
        rw [e1, e2]
        exact ⟨-3, Mx', Mm', rfl, by decide, Or.inr ⟨h2, rfl, by decide⟩, e3⟩
      · right
        have e1 : f_X5_diaryRefusal_L34 jfu (nI j) 0 Mx = _ := e1
        have e2 : f_X6_lacksDiary_L31 jfu (nI j) 0 Mm = _ := e2
        rw [e1, e2]
        exact ⟨j, n, hj, e, rfl, hx, hm, rfl, h2, rfl⟩
    · left
      rw [if_neg e, if_neg e, show (5 : Int32) = nI 5 from rfl, x_find (by decide), m_find (by decide)]
      exact ⟨-3, _, _, rfl, by decide, Or.inr ⟨h2, rfl, by decide⟩, rl_find Q1_stay R (by decide)⟩
def atT (q : Nat → Nat → Nat) (x : Int32) (h : Nat) : Bool := decide (nI (q 4 h) = x)
theorem x_hat (hq : okP q) (hx : hX q M) (x : Int32) : f_X2_hoursAt x M = some (nI (bts (atT q x) (q 0 1))) := by
  have h7 := hq.2.1
  have hl : f_X2_hoursAt_L4 jfu x 0 0 M = some (nI (bts (atT q x) (q 0 1)), nI (q 0 1)) := by
    refine jloop0 (L := fun m (s : Int32 × Int32) => f_X2_hoursAt_L4 m x s.1 s.2 M) (S := fun k => (nI (bts (atT q x) k), nI k)) (n := q 0 1) (by unfold jfu; omega) ?_ ?_
    · intro m k hk
      show f_X2_hoursAt_L4_b (f_X2_hoursAt_L4 m) x _ (nI k) M = f_X2_hoursAt_L4 m x _ (nI (k + 1)) M
      unfold f_X2_hoursAt_L4_b
      rw [hx.2.1, if_neg (nI_ge hk (by omega)), jg_t (jin_nI (show k < 7 by omega) (by decide)), nI_clamp (show k < 2 ^ 31 by omega), (hx.2.2.2 k hk).1, jlet_e, jlet_e, jlet_e, nI_1, jshl k (by omega), jacc (f := atT q x)]
      unfold atT
      by_cases e : nI (q 4 k) = x
      · rw [if_pos e, if_pos (by simp [e])]
      · rw [if_neg e, if_neg (by simp [e])]
    · intro m
      show f_X2_hoursAt_L4_b (f_X2_hoursAt_L4 m) x _ (nI (q 0 1)) M = _
      unfold f_X2_hoursAt_L4_b
      rw [hx.2.1, if_pos (nI_le (Nat.le_refl _) (by omega))]
  unfold f_X2_hoursAt
  rw [hl]; rfl
theorem m_hof (hq : okP q) (hx : hM q M) (x : Int32) : f_X6_hoursOf x M = some (nI (cnt (atT q x) (q 0 1))) := by
  have h7 := hq.2.1
  have hl : f_X6_hoursOf_L4 jfu x 0 0 M = some (nI (cnt (atT q x) (q 0 1)), nI (q 0 1)) := by
    refine jloop0 (L := fun m (s : Int32 × Int32) => f_X6_hoursOf_L4 m x s.1 s.2 M) (S := fun k => (nI (cnt (atT q x) k), nI k)) (n := q 0 1) (by unfold jfu; omega) ?_ ?_
    · intro m k hk
      show f_X6_hoursOf_L4_b (f_X6_hoursOf_L4 m) x _ (nI k) M = f_X6_hoursOf_L4 m x _ (nI (k + 1)) M
      unfold f_X6_hoursOf_L4_b
      rw [hx.2.1, if_neg (nI_ge hk (by omega)), jg_t (jin_nI (show k < 7 by omega) (by decide)), nI_clamp (show k < 2 ^ 31 by omega), (hx.2.2.2 k hk).1, jlet_e, jlet_e, jlet_e, nI_1, jcac (f := atT q x)]
      unfold atT b2
      by_cases e : nI (q 4 k) = x
      · rw [if_pos e, if_pos (by simp [e])]
      · rw [if_neg e, if_neg (by simp [e])]
    · intro m
      show f_X6_hoursOf_L4_b (f_X6_hoursOf_L4 m) x _ (nI (q 0 1)) M = _
      unfold f_X6_hoursOf_L4_b
      rw [hx.2.1, if_pos (nI_le (Nat.le_refl _) (by omega))]
  unfold f_X6_hoursOf
  rw [hl]; rfl
/-- hours left for place p of the times x, behind k places -/
def lf (x : Nat → Int32) (A : Int32) (p : Nat) : Nat → Int32
  | 0 => A
  | k + 1 => lf x A p k - (if x k = x p then 1 else 0)
def lft (q : Nat → Nat → Nat) (x : Nat → Int32) (p : Nat) : Int32 := lf x (nI (cnt (atT q (x p)) (q 0 1))) p p
def pos0 (v : Int32) : Int32 := if 0 < v then v else 0
theorem x_left (hq : okP q) (hx : hX q M) {o p : Nat} (hp : p < 40) : f_X5_hoursLeftFor o 40 (nI p) M = some (pos0 (lft q (gi M o) p)) := by
  have h7 := hq.2.1
  unfold f_X5_hoursLeftFor
  rw [jg_t (jin_nI hp (by decide)), nI_clamp (show p < 2 ^ 31 by omega), x_hat hq hx, jb1_e, x_bc (bts_128 h7), jb1_e, pc_bts h7]
  have hl : f_X5_hoursLeftFor_L17 o 40 jfu (nI p) (nI (cnt (atT q (gi M o p)) (q 0 1))) 0 M = some (lft q (gi M o) p, nI p) := by
    refine jloop0 (L := fun m (s : Int32 × Int32) => f_X5_hoursLeftFor_L17 o 40 m (nI p) s.1 s.2 M) (S := fun k => (lf (gi M o) (nI (cnt (atT q (gi M o p)) (q 0 1))) p k, nI k)) (n := p) (by unfold jfu; omega) ?_ ?_
    · intro m k hk
      show f_X5_hoursLeftFor_L17_b o 40 (f_X5_hoursLeftFor_L17 o 40 m) (nI p) _ (nI k) M = f_X5_hoursLeftFor_L17 o 40 m (nI p) _ (nI (k + 1)) M
      unfold f_X5_hoursLeftFor_L17_b
      rw [if_neg (nI_ge hk (by omega)), jg_t (jin_nI (show k < 40 by omega) (by decide)), jg_t (jin_nI hp (by decide)), nI_clamp (show p < 2 ^ 31 by omega), nI_clamp (show k < 2 ^ 31 by omega), jlet_e, jlet_e, jlet_e, nI_1]; rfl
    · intro m
      show f_X5_hoursLeftFor_L17_b o 40 (f_X5_hoursLeftFor_L17 o 40 m) (nI p) _ (nI p) M = _
      unfold f_X5_hoursLeftFor_L17_b
      rw [if_pos (nI_le (Nat.le_refl _) (by omega))]; rfl
  rw [hl]; rfl
theorem m_left (hq : okP q) (hx : hM q M) {j p : Nat} {x : Nat → Int32} (hj : j < 6) (hp : p < 40) (e : ∀ k, k ≤ p → gi M 2 (40 * j + k) = x k) : f_X6_leftFor (nI j) (nI p) M = some (lft q x p) := by
  have h7 := hq.2.1
  unfold f_X6_leftFor
  rw [e40, jg_t (jin_nI (show 40 * j + p < 240 by omega) (by decide)), nI_clamp (show 40 * j + p < 2 ^ 31 by omega), e p (Nat.le_refl _), m_hof hq hx, jb1_e]
  have hl : f_X6_leftFor_L19 jfu (nI j) (nI p) (nI (cnt (atT q (x p)) (q 0 1))) 0 M = some (lft q x p, nI p) := by
    refine jloop0 (L := fun m (s : Int32 × Int32) => f_X6_leftFor_L19 m (nI j) (nI p) s.1 s.2 M) (S := fun k => (lf x (nI (cnt (atT q (x p)) (q 0 1))) p k, nI k)) (n := p) (by unfold jfu; omega) ?_ ?_
    · intro m k hk
      show f_X6_leftFor_L19_b (f_X6_leftFor_L19 m) (nI j) (nI p) _ (nI k) M = f_X6_leftFor_L19 m (nI j) (nI p) _ (nI (k + 1)) M
      unfold f_X6_leftFor_L19_b
      rw [if_neg (nI_ge hk (by omega)), e40, e40, jg_t (jin_nI (show 40 * j + k < 240 by omega) (by decide)), jg_t (jin_nI (show 40 * j + p < 240 by omega) (by decide)), nI_clamp (show 40 * j + p < 2 ^ 31 by omega), nI_clamp (show 40 * j + k < 2 ^ 31 by omega), e p (Nat.le_refl _), e k (by omega), jlet_e, jlet_e, jlet_e, nI_1]; rfl
    · intro m
      show f_X6_leftFor_L19_b (f_X6_leftFor_L19 m) (nI j) (nI p) _ (nI p) M = _
      unfold f_X6_leftFor_L19_b
      rw [if_pos (nI_le (Nat.le_refl _) (by omega))]; rfl
  rw [hl]; rfl
theorem s_forged : kS_forged (Rl Q1) := by
  intro a1 Mx Mm R
  unfold f_X5_forged f_X6_forged
  rcases di_ok R a1 with ⟨r, Mx', Mm', h1, h2, h3, h4⟩ | ⟨j, n, hj, hn, rfl, hx, hm, h1, h2, h3⟩
  · rw [h1, jb2_e, if_neg h2]
    rcases h3 with ⟨rfl, rfl, h5⟩ | ⟨h5, h6, h7⟩
    · rw [h5]; exact ⟨-1, Mx', Mm', rfl, rfl, h4⟩
    · rw [h5, jb1_e, if_neg j10, h6, jb2_e, if_neg h7]
      exact ⟨r, Mx', Mm', rfl, rfl, h4⟩
  · obtain ⟨q, c, H⟩ := R.2.2.2
    rw [h1, jb2_e, if_pos j00, h2, jb1_e, if_neg j10, h3, jb2_e, if_pos (by decide)]
    have key : ∀ (r k m : Nat), k + r = n → r < m → (∃ p, f_X5_forged_L14 m (nI j) (nI k) Mx = some (.inl (nI p, Mx)) ∧ f_X6_forged_L23 m (nI j) (nI k) Mm = some (.inl (nI p, Mm))) ∨ (f_X5_forged_L14 m (nI j) (nI k) Mx = some (.inr (nI n)) ∧ f_X6_forged_L23 m (nI j) (nI k) Mm = some (.inr (nI n))) := by
      intro r
      induction r with
      | zero =>
        intro k m hk hm'
        obtain ⟨m', rfl⟩ : ∃ m', m = m' + 1 := ⟨m - 1, by omega⟩
        have e : k = n := by omega
        subst e
        right
        constructor
        · show f_X5_forged_L14_b (f_X5_forged_L14 m') _ _ _ = _
          unfold f_X5_forged_L14_b
          rw [jg_t (jin_nI hj (by decide)), nI_clamp (show j < 2 ^ 31 by omega), hx, if_pos (nI_le (Nat.le_refl _) (by omega))]
        · show f_X6_forged_L23_b (f_X6_forged_L23 m') _ _ _ = _
          unfold f_X6_forged_L23_b
          rw [jg_t (jin_nI hj (by decide)), nI_clamp (show j < 2 ^ 31 by omega), hm, if_pos (nI_le (Nat.le_refl _) (by omega))]
      | succ r ih =>
        intro k m hk hm'
        obtain ⟨m', rfl⟩ : ∃ m', m = m' + 1 := ⟨m - 1, by omega⟩
        show (∃ p, f_X5_forged_L14_b (f_X5_forged_L14 m') (nI j) (nI k) Mx = _ ∧ f_X6_forged_L23_b (f_X6_forged_L23 m') (nI j) (nI k) Mm = _) ∨ (f_X5_forged_L14_b (f_X5_forged_L14 m') (nI j) (nI k) Mx = _ ∧ f_X6_forged_L23_b (f_X6_forged_L23 m') (nI j) (nI k) Mm = _)
        unfold f_X5_forged_L14_b f_X6_forged_L23_b
        rw [jg_t (jin_nI hj (by decide)), jg_t (jin_nI hj (by decide)), jg_t (jin_nI hj (by decide)), nI_clamp (show j < 2 ^ 31 by omega), hx, hm, if_neg (nI_ge (show k < n by omega) (by omega)), if_neg (nI_ge (show k < n by omega) (by omega)), x_left H.1 H.2.1 (show k < 40 by omega), jb1_e, m_left (x := gi Mx (4 + j)) H.1 H.2.2.1 hj (show k < 40 by omega) (fun z hz => ((R.2.1 j hj).2.2 z (by omega)).symm), jb1_e, jlet_e, jlet_e, nI_1]
        unfold pos0
        generalize lft q (gi Mx (4 + j)) k = v
        by_cases c0 : 0 < v
        · have c1 : (1 : Int32) ≤ v := by
            rw [Int32.lt_iff_toInt_lt] at c0
            rw [Int32.le_iff_toInt_le]
            have e1 : (0 : Int32).toInt = 0 := rfl
            have e2 : (1 : Int32).toInt = 1 := rfl
            omega
          have c2 : ¬ v = 0 := fun w => by subst w; exact absurd c0 (by decide)
          rw [if_pos c0, if_neg c2, if_pos c1]
          exact ih (k + 1) m' (by omega) (by omega)
        · have c1 : ¬ (1 : Int32) ≤ v := fun w => c0 (by
            rw [Int32.le_iff_toInt_le] at w
            rw [Int32.lt_iff_toInt_lt]
            have e1 : (0 : Int32).toInt = 0 := rfl
            have e2 : (1 : Int32).toInt = 1 := rfl
            omega)
          rw [if_neg c0, if_pos j00, if_neg c1]
          exact Or.inl ⟨k, rfl, rfl⟩
    rcases key n 0 jfu (by omega) (by unfold jfu; omega) with ⟨p, e1, e2⟩ | ⟨e1, e2⟩
    · have e1 : f_X5_forged_L14 jfu (nI j) 0 Mx = _ := e1
      have e2 : f_X6_forged_L23 jfu (nI j) 0 Mm = _ := e2
      rw [e1, e2]
      exact ⟨_, Mx, Mm, rfl, rfl, R⟩
    · have e1 : f_X5_forged_L14 jfu (nI j) 0 Mx = _ := e1
      have e2 : f_X6_forged_L23 jfu (nI j) 0 Mm = _ := e2
      rw [e1, e2]
      exact ⟨_, Mx, Mm, rfl, rfl, R⟩
/-- in how many ways, behind k places -/
def wy (q : Nat → Nat → Nat) (x : Nat → Int32) : Nat → Int32
  | 0 => 1
  | k + 1 => wy q x k * pos0 (lft q x k)
def ffd (f : Nat → Bool) : Nat → Int32 → Int32
  | 0, a => a
  | k + 1, a => ffd f k (if f k = true then nI k else a)
theorem ffd_0 : ∀ n, n < 8 → ∀ s, s < 128 → ffd (fun i => decide (i < n) && s.testBit i) n (-9) = if s % 2 ^ n = 0 then -9 else nI (lo (s % 2 ^ n)) := by decide +kernel
theorem ffd_cg {f g : Nat → Bool} : ∀ (k : Nat) (a : Int32), (∀ i, i < k → f i = g i) → ffd f k a = ffd g k a
  | 0, _, _ => rfl
  | k + 1, a, h => by
    show ffd f k (if f k = true then nI k else a) = ffd g k (if g k = true then nI k else a)
    rw [h k (by omega)]
    exact ffd_cg k _ (fun i hi => h i (by omega))
theorem ffd_b {f : Nat → Bool} {n : Nat} (hn : n ≤ 7) : ffd f n (-9) = if bts f n = 0 then -9 else nI (lo (bts f n)) := by
  have e := ffd_0 n (by omega) (bts f n) (bts_128 hn)
  rw [Nat.mod_eq_of_lt (bts_lt f n)] at e
  rw [← e]
  exact ffd_cg n _ (fun i hi => by rw [bts_bit]; simp [hi])
theorem ffd_n : ∀ (k : Nat) (a : Int32), ffd (fun _ => false) k a = a
  | 0, _ => rfl
  | k + 1, a => ffd_n k a
theorem m_ffd (hq : okP q) (hx : hM q M) {j : Nat} {w : Int32} (hj : j < 6) : ∀ (k m : Nat) (a : Int32), k ≤ q 0 1 → k < m → f_X6_diary_L79 m (nI j) w a (nI k - 1) M = some (ffd (fun h => decide (0 < w) && (decide (0 < gi M 1 j) && atT q (gi M 2 (40 * j)) h)) k a, -1)
  | 0, m, a, _, hm => by
    obtain ⟨m', rfl⟩ : ∃ m', m = m' + 1 := ⟨m - 1, by omega⟩
    show f_X6_diary_L79_b (f_X6_diary_L79 m') _ _ _ _ M = _
    unfold f_X6_diary_L79_b
    rw [if_pos (by decide)]; rfl
  | k + 1, m, a, hk, hm => by
    obtain ⟨m', rfl⟩ : ∃ m', m = m' + 1 := ⟨m - 1, by omega⟩
    have h7 := hq.2.1
    show f_X6_diary_L79_b (f_X6_diary_L79 m') _ _ _ _ M = _
    unfold f_X6_diary_L79_b
    have e4 : (40 : Int32) * nI j = nI (40 * j) := by rw [show (40 : Int32) = nI 40 from rfl, pk_mul]
    rw [nI_pred, if_neg (nI_pos (by omega)), jg_t (jin_nI hj (by decide)), jg_t (jin_nI (show k < 7 by omega) (by decide)), e4, jg_t (jin_nI (show 40 * j < 240 by omega) (by decide)), nI_clamp (show j < 2 ^ 31 by omega), nI_clamp (show k < 2 ^ 31 by omega), nI_clamp (show 40 * j < 2 ^ 31 by omega), (hx.2.2.2 k (by omega)).1]
    have e : (if w ≤ 0 then some a else if gi M 1 j ≤ 0 then some a else if nI (q 4 k) = gi M 2 (40 * j) then some (nI k) else some a) = some (if (decide (0 < w) && (decide (0 < gi M 1 j) && atT q (gi M 2 (40 * j)) k)) = true then nI k else a) := by
      unfold atT
      by_cases c1 : w ≤ 0
      · rw [if_pos c1, if_neg (by simp [Int32.not_lt.mpr c1])]
      · have c1' : 0 < w := Int32.not_le.mp c1
        rw [if_neg c1]
        by_cases c2 : gi M 1 j ≤ 0
        · rw [if_pos c2, if_neg (by simp [Int32.not_lt.mpr c2])]
        · have c2' : 0 < gi M 1 j := Int32.not_le.mp c2
          rw [if_neg c2]
          by_cases c3 : nI (q 4 k) = gi M 2 (40 * j)
          · rw [if_pos c3, if_pos (by simp [c1', c2', c3])]
          · rw [if_neg c3, if_neg (by simp [c3])]
    rw [e, jb1_e, jlet_e, show nI k + (-1) = nI k - 1 from (Int32.sub_eq_add_neg ..).symm]
    exact m_ffd hq hx hj k m' _ (by omega) (by omega)
theorem s_diary : kS_diary (Rl Q1) := by
  intro a1 Mx Mm R
  unfold f_X5_diary f_X6_diary
  rcases di_ok R a1 with ⟨r, Mx', Mm', h1, h2, h3, h4⟩ | ⟨j, n, hj, hn, rfl, hx, hm, h1, h2, h3⟩
  · rw [h1, jb2_e, if_neg h2]
    rcases h3 with ⟨rfl, rfl, h5⟩ | ⟨h5, h6, h7⟩
    · rw [h5]; exact ⟨-1, Mx', Mm', rfl, rfl, h4⟩
    · rw [h5, jb1_e, if_neg j10, h6, jb2_e, if_neg h7]
      exact ⟨r, Mx', Mm', rfl, rfl, h4⟩
  · obtain ⟨q, c, H⟩ := R.2.2.2
    have h7 := H.1.2.1
    rw [h1, jb2_e, if_pos j00, h2, jb1_e, if_neg j10, h3, jb2_e, if_pos (by decide)]
    have l1 : f_X5_diary_L17 jfu (nI j) 1 0 Mx = some (wy q (gi Mx (4 + j)) n, nI n) := by
      refine jloop0 (L := fun m (s : Int32 × Int32) => f_X5_diary_L17 m (nI j) s.1 s.2 Mx) (S := fun k => (wy q (gi Mx (4 + j)) k, nI k)) (n := n) (by unfold jfu; omega) ?_ ?_
      · intro m k hk
        show f_X5_diary_L17_b (f_X5_diary_L17 m) (nI j) _ (nI k) Mx = f_X5_diary_L17 m (nI j) _ (nI (k + 1)) Mx
        unfold f_X5_diary_L17_b
        rw [jg_t (jin_nI hj (by decide)), nI_clamp (show j < 2 ^ 31 by omega), hx, if_neg (nI_ge hk (by omega)), jg_t (jin_nI hj (by decide)), x_left H.1 H.2.1 (show k < 40 by omega), jb1_e, jlet_e, jlet_e, nI_1]; rfl
      · intro m
        show f_X5_diary_L17_b (f_X5_diary_L17 m) (nI j) _ (nI n) Mx = _
        unfold f_X5_diary_L17_b
        rw [jg_t (jin_nI hj (by decide)), nI_clamp (show j < 2 ^ 31 by omega), hx, if_pos (nI_le (Nat.le_refl _) (by omega))]
    have l2 : f_X6_diary_L26 jfu (nI j) 1 0 Mm = some (wy q (gi Mx (4 + j)) n, nI n) := by
      refine jloop0 (L := fun m (s : Int32 × Int32) => f_X6_diary_L26 m (nI j) s.1 s.2 Mm) (S := fun k => (wy q (gi Mx (4 + j)) k, nI k)) (n := n) (by unfold jfu; omega) ?_ ?_
      · intro m k hk
        show f_X6_diary_L26_b (f_X6_diary_L26 m) (nI j) _ (nI k) Mm = f_X6_diary_L26 m (nI j) _ (nI (k + 1)) Mm
        unfold f_X6_diary_L26_b
        rw [jg_t (jin_nI hj (by decide)), nI_clamp (show j < 2 ^ 31 by omega), hm, if_neg (nI_ge hk (by omega)), m_left (x := gi Mx (4 + j)) H.1 H.2.2.1 hj (show k < 40 by omega) (fun z hz => ((R.2.1 j hj).2.2 z (by omega)).symm), jb1_e, jb1_e]
        have e : (if 0 ≤ lft q (gi Mx (4 + j)) k then some (lft q (gi Mx (4 + j)) k) else some (0 : Int32)) = some (pos0 (lft q (gi Mx (4 + j)) k)) := by
          unfold pos0
          generalize lft q (gi Mx (4 + j)) k = v
          by_cases c0 : 0 < v
          · rw [if_pos c0, if_pos (Int32.le_of_lt c0)]
          · rw [if_neg c0]
            by_cases c1 : 0 ≤ v
            · rw [if_pos c1]
              exact congrArg some (Int32.le_antisymm (Int32.not_lt.mp c0) c1)
            · rw [if_neg c1]
        rw [e, jb1_e, jlet_e, jlet_e, nI_1]; rfl
      · intro m
        show f_X6_diary_L26_b (f_X6_diary_L26 m) (nI j) _ (nI n) Mm = _
        unfold f_X6_diary_L26_b
        rw [jg_t (jin_nI hj (by decide)), nI_clamp (show j < 2 ^ 31 by omega), hm, if_pos (nI_le (Nat.le_refl _) (by omega))]
    have e0 : gi Mm 2 (40 * j) = gi Mx (4 + j) 0 := ((R.2.1 j hj).2.2 0 (by decide)).symm
    rw [l1, jb2_e, l2, jb2_e, H.2.2.1.2.1, jlet_e, jlet_e, m_ffd H.1 H.2.2.1 hj _ jfu _ (Nat.le_refl _) (by unfold jfu; omega), jb2_e, m_answer, jb2_e, jg_t (jin_nI hj (by decide)), nI_clamp (show j < 2 ^ 31 by omega), hx, hm, jg_t (jin_nI hj (by decide)), x_hat H.1 H.2.1, jb1_e, x_first (bts_128 h7), jb1_e, e0]
    have e : (if (if nI n ≤ 0 then (0 : Int32) else if wy q (gi Mx (4 + j)) n ≤ 0 then 0 else 1) = 0 then some (-9 : Int32) else some (if bts (atT q (gi Mx (4 + j) (0 : Int32).toNatClampNeg)) (q 0 1) = 0 then -9 else nI (lo (bts (atT q (gi Mx (4 + j) (0 : Int32).toNatClampNeg)) (q 0 1))))) = some (ffd (fun h => decide (0 < wy q (gi Mx (4 + j)) n) && (decide (0 < nI n) && atT q (gi Mx (4 + j) 0) h)) (q 0 1) (-9)) := by
      by_cases c1 : nI n ≤ 0
      · rw [if_pos c1, if_pos j00, ffd_cg (g := fun _ => false) _ _ (fun i _ => by simp [Int32.not_lt.mpr c1]), ffd_n]
      · rw [if_neg c1]
        by_cases c2 : wy q (gi Mx (4 + j)) n ≤ 0
        · rw [if_pos c2, if_pos j00, ffd_cg (g := fun _ => false) _ _ (fun i _ => by simp [Int32.not_lt.mpr c2]), ffd_n]
        · rw [if_neg c2, if_neg j10, ffd_cg (g := atT q (gi Mx (4 + j) 0)) _ _ (fun i _ => by simp [Int32.not_le.mp c1, Int32.not_le.mp c2]), ffd_b h7]; rfl
    rw [e, jb1_e, jlet_e]
    exact ⟨_, _, _, rfl, rfl, rl_tell Q1_stay R _⟩
end JI
