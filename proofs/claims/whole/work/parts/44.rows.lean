section JR2
variable {Q : jM → jM → Prop} {Mx Mm : jM}
theorem e40 (j i : Nat) : (40 : Int32) * nI j + nI i = nI (40 * j + i) := by rw [show (40 : Int32) = nI 40 from rfl, pk_mul, nI_add]
theorem e80 (j i : Nat) : (80 : Int32) * nI j + nI i = nI (80 * j + i) := by rw [show (80 : Int32) = nI 80 from rfl, pk_mul, nI_add]
/-- a fresh row -/
theorem m_row_loop {j : Nat} (hj : j < 6) : ∀ (m i : Nat) (M : jM), i ≤ 40 → 40 - i < m → f_X6_row_L34 m (nI j) (nI i) M = some (nI 40, jff M 2 (40 * j + i) (40 * j + 40) 0)
  | 0, i, M, _, h => absurd h (Nat.not_lt_zero _)
  | m + 1, i, M, hi, h => by
    show f_X6_row_L34_b (f_X6_row_L34 m) (nI j) (nI i) M = _
    unfold f_X6_row_L34_b
    by_cases hlt : i < 40
    · rw [show (40 : Int32) = nI 40 from rfl, if_neg (nI_ge hlt (by decide)), pk_mul, nI_add, jg_t (jin_nI (by omega) (by decide)), jlet_e, jlet_e, nI_1, nI_clamp (by omega), m_row_loop hj m (i + 1) _ (by omega) (by omega)]
      rw [show 40 * j + (i + 1) = (40 * j + i) + 1 by omega, jff_step M 2 (40 * j + i) (40 * j + 40) 0 (by omega)]
    · have e : i = 40 := by omega
      subst e
      rw [show (40 : Int32) = nI 40 from rfl, if_pos (nI_le (Nat.le_refl _) (by decide)), jff_end]
theorem m_text_loop {j : Nat} (hj : j < 4) : ∀ (m i : Nat) (M : jM), i ≤ 80 → 80 - i < m → f_X6_text_L34 m (nI j) (nI i) M = some (nI 80, jff M 4 (80 * j + i) (80 * j + 80) 32)
  | 0, i, M, _, h => absurd h (Nat.not_lt_zero _)
  | m + 1, i, M, hi, h => by
    show f_X6_text_L34_b (f_X6_text_L34 m) (nI j) (nI i) M = _
    unfold f_X6_text_L34_b
    by_cases hlt : i < 80
    · rw [show (80 : Int32) = nI 80 from rfl, if_neg (nI_ge hlt (by decide)), pk_mul, nI_add, jg_t (jin_nI (by omega) (by decide)), jlet_e, jlet_e, nI_1, nI_clamp (by omega), m_text_loop hj m (i + 1) _ (by omega) (by omega)]
      rw [show 80 * j + (i + 1) = (80 * j + i) + 1 by omega, jff_step M 4 (80 * j + i) (80 * j + 80) 32 (by omega)]
    · have e : i = 80 := by omega
      subst e
      rw [show (80 : Int32) = nI 80 from rfl, if_pos (nI_le (Nat.le_refl _) (by decide)), jff_end]
theorem x_begina {j n : Nat} {v w : Int32} (hj : j < 6) : f_X4_begina (nI j) v w Mx = some (jff (si Mx 2 j v) (4 + j) 0 40 w) := by
  unfold f_X4_begina
  rw [jg_t (jin_nI hj (by decide)), jlet_e, jg_t (jin_nI hj (by decide)), nI_clamp (by omega), fill_ok (by decide)]
  rfl
theorem x_beginb {j n : Nat} {v w : Int32} (hj : j < 4) : f_X4_beginb (nI j) v w Mx = some (jff (si Mx 11 j v) (13 + j) 0 80 w) := by
  unfold f_X4_beginb
  rw [jg_t (jin_nI hj (by decide)), jlet_e, jg_t (jin_nI hj (by decide)), nI_clamp (by omega), fill_ok (by decide)]
  rfl
theorem m_row {j : Nat} {n : Nat} (hj : j < 6) (hn : n ≤ 40) : f_X6_row (nI j) (nI n) Mm = some (nI n, jff (si Mm 1 j (nI n)) 2 (40 * j) (40 * j + 40) 0) := by
  unfold f_X6_row
  rw [m_isRow_t hj, jb1_e, if_neg (by decide), show (40 : Int32) = nI 40 from rfl, if_pos (nI_le hn (by decide)), if_pos (nI_pos' (by omega)), jg_t (jin_nI hj (by decide)), jlet_e, nI_clamp (by omega), show (0 : Int32) = nI 0 from rfl, m_row_loop hj jfu 0 _ (by decide) (by decide)]
  rfl
theorem x_row {j : Nat} {n : Nat} (hj : j < 6) (hn : n ≤ 40) : f_X5_row (nI j) (nI n) Mx = some (nI n, jff (si Mx 2 j (nI n)) (4 + j) 0 40 0) := by
  unfold f_X5_row
  rw [x_knowsa_t hj, jb1_e, if_neg (by decide), show (40 : Int32) = nI 40 from rfl, if_pos (nI_le hn (by decide)), if_pos (nI_pos' (by omega)), x_begina hj (n := 0)]
  rfl
theorem rr_row {j : Nat} {v : Int32} (hj : j < 6) (hv : v = -1 ∨ ∃ n, n ≤ 40 ∧ v = nI n) (h : rr Mx Mm) : rr (jff (si Mx 2 j v) (4 + j) 0 40 0) (jff (si Mm 1 j v) 2 (40 * j) (40 * j + 40) 0) := by
  intro r hr
  obtain ⟨h1, h2, h3⟩ := h r hr
  have g1 : gi (jff (si Mx 2 j v) (4 + j) 0 40 0) 2 r = if r = j then v else gi Mx 2 r := by
    rw [gi_jff, if_neg (by omega), gi_si]; simp
  have g2 : gi (jff (si Mm 1 j v) 2 (40 * j) (40 * j + 40) 0) 1 r = if r = j then v else gi Mm 1 r := by
    rw [gi_jff, if_neg (by omega), gi_si]; simp
  rw [g1, g2]
  refine ⟨?_, ?_, fun k hk => ?_⟩
  · by_cases e : r = j
    · rw [if_pos e, if_pos e]
    · rw [if_neg e, if_neg e]; exact h1
  · by_cases e : r = j
    · rw [if_pos e]; exact hv
    · rw [if_neg e]; exact h2
  · rw [gi_jff, gi_jff, gi_si, gi_si, if_neg (show ¬ (4 + r = 2 ∧ k = j) by omega), if_neg (show ¬ (2 = 1 ∧ 40 * r + k = j) by omega)]
    by_cases e : r = j
    · subst e
      rw [if_pos ⟨rfl, by omega, hk⟩, if_pos ⟨rfl, by omega, by omega⟩]
    · rw [if_neg (by omega), if_neg (by omega)]
      exact h3 k hk
end JR2
