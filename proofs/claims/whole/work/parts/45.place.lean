section JR3
variable {Q : jM → jM → Prop} {Mx Mm : jM}
theorem nI_m1 {n : Nat} (h : n < 2 ^ 31) : ¬ nI n = -1 := fun q => by
  have e := congrArg Int32.toInt q
  rw [nI_toInt h] at e
  have e2 : (-1 : Int32).toInt = -1 := rfl
  omega
theorem m1_neg : ¬ (0 : Int32) ≤ -1 := by decide
/-- in(x, 0, n - 1), the upper end as an int -/
theorem m_inS_t {i n : Nat} {M : jM} (h : i < n) (hn : n < 2 ^ 30) : f_X6_in (nI i).toInt64 0 (nI n - 1).toInt64 M = some 1 := by
  refine m_in_t ?_ ?_
  · rw [show (0 : Int64) = (nI 0).toInt64 from rfl, jw_lt]; exact nI_pos (by omega)
  · rw [jw_lt, Int32.lt_iff_toInt_lt, show (1 : Int32) = nI 1 from rfl, pk_sub_toInt hn (by decide), nI_toInt (by omega)]; omega
theorem m_inS_f {x : Int32} {n : Nat} {M : jM} (h : x < 0 ∨ nI n ≤ x) (hn : n < 2 ^ 30) : f_X6_in x.toInt64 0 (nI n - 1).toInt64 M = some 0 := by
  refine m_in_f ?_
  rcases h with h | h
  · left; rw [show (0 : Int64) = (0 : Int32).toInt64 from rfl, jw_lt]; exact h
  · right
    rw [jw_lt, Int32.lt_iff_toInt_lt, show (1 : Int32) = nI 1 from rfl, pk_sub_toInt hn (by decide)]
    rw [Int32.le_iff_toInt_le, nI_toInt (by omega)] at h
    omega
/-- i + n within a size, as longs -/
theorem x_reach {a n : Nat} {i : Nat} (hi : i < 2 ^ 31) (hn : n < 2 ^ 31) (ha : a < 2 ^ 31) : (0 < lg_cmp ((nI i).toInt64 + (nI a).toInt64) (nI n).toInt64) ↔ n < i + a := by
  rw [jlg_gt, nI_l hi, nI_l hn, nI_l ha, lN_add, pk_lLT (by omega) (by omega)]
theorem x_reachesa_t {j i a n : Nat} (hj : j < 6) (hs : gi Mx 2 j = nI n) (hi : i < 2 ^ 31) (hn : n < 2 ^ 31) (ha : a < 2 ^ 31) (h : i + a ≤ n) : f_X4_reachesa (nI j) (nI i) (nI a) Mx = some 1 := by
  unfold f_X4_reachesa
  rw [if_neg (nI_pos hi), jg_t (jin_nI hj (by decide)), nI_clamp (by omega), hs, if_neg (fun q => by have := (x_reach hi hn ha).mp q; omega)]
theorem x_reachesa_f {j a n : Nat} {x : Int32} (hj : j < 6) (hs : gi Mx 2 j = nI n) (hn : n < 2 ^ 31) (ha : a < 2 ^ 31) (h : x < 0 ∨ ∃ i, i < 2 ^ 31 ∧ x = nI i ∧ n < i + a) : f_X4_reachesa (nI j) x (nI a) Mx = some 0 := by
  unfold f_X4_reachesa
  by_cases h0 : x < 0
  · rw [if_pos h0]
  · obtain ⟨i, hi, rfl, hlt⟩ := h.resolve_left h0
    rw [if_neg h0, jg_t (jin_nI hj (by decide)), nI_clamp (by omega), hs, if_pos ((x_reach hi hn ha).mpr hlt)]
theorem x_reachesb_t {j i a n : Nat} (hj : j < 4) (hs : gi Mx 11 j = nI n) (hi : i < 2 ^ 31) (hn : n < 2 ^ 31) (ha : a < 2 ^ 31) (h : i + a ≤ n) : f_X4_reachesb (nI j) (nI i) (nI a) Mx = some 1 := by
  unfold f_X4_reachesb
  rw [if_neg (nI_pos hi), jg_t (jin_nI hj (by decide)), nI_clamp (by omega), hs, if_neg (fun q => by have := (x_reach hi hn ha).mp q; omega)]
theorem x_reachesb_f {j a n : Nat} {x : Int32} (hj : j < 4) (hs : gi Mx 11 j = nI n) (hn : n < 2 ^ 31) (ha : a < 2 ^ 31) (h : x < 0 ∨ ∃ i, i < 2 ^ 31 ∧ x = nI i ∧ n < i + a) : f_X4_reachesb (nI j) x (nI a) Mx = some 0 := by
  unfold f_X4_reachesb
  by_cases h0 : x < 0
  · rw [if_pos h0]
  · obtain ⟨i, hi, rfl, hlt⟩ := h.resolve_left h0
    rw [if_neg h0, jg_t (jin_nI hj (by decide)), nI_clamp (by omega), hs, if_pos ((x_reach hi hn ha).mpr hlt)]
theorem x_isTherea_f {j : Nat} (hj : j < 6) (hs : gi Mx 2 j = -1) : f_X4_isTherea (nI j) Mx = some 0 := by
  unfold f_X4_isTherea
  rw [jg_t (jin_nI hj (by decide)), nI_clamp (by omega), if_pos hs]
theorem x_isTherea_t {j n : Nat} (hj : j < 6) (hn : n < 2 ^ 31) (hs : gi Mx 2 j = nI n) : f_X4_isTherea (nI j) Mx = some 1 := by
  unfold f_X4_isTherea
  rw [jg_t (jin_nI hj (by decide)), nI_clamp (by omega), hs, if_neg (nI_m1 hn)]
theorem x_isThereb_f {j : Nat} (hj : j < 4) (hs : gi Mx 11 j = -1) : f_X4_isThereb (nI j) Mx = some 0 := by
  unfold f_X4_isThereb
  rw [jg_t (jin_nI hj (by decide)), nI_clamp (by omega), if_pos hs]
theorem x_isThereb_t {j n : Nat} (hj : j < 4) (hn : n < 2 ^ 31) (hs : gi Mx 11 j = nI n) : f_X4_isThereb (nI j) Mx = some 1 := by
  unfold f_X4_isThereb
  rw [jg_t (jin_nI hj (by decide)), nI_clamp (by omega), hs, if_neg (nI_m1 hn)]
theorem x_refa_bad {x : Int32} (h : x < 0 ∨ nI 6 ≤ x) : f_X5_refusalOfa x Mx = some (-1, Mx) := by
  unfold f_X5_refusalOfa
  rw [x_knowsa_f h]; rfl
theorem x_refa_no {j : Nat} (hj : j < 6) (hs : gi Mx 2 j = -1) : f_X5_refusalOfa (nI j) Mx = some (-3, si (si Mx 0 9 (nI 1)) 68 1 (gi Mx 68 1 + 1)) := by
  unfold f_X5_refusalOfa
  rw [x_knowsa_t hj, jb1_e, if_neg (by decide), x_isTherea_f hj hs, jb1_e, if_pos rfl, show (1 : Int32) = nI 1 from rfl, x_find (by decide)]; rfl
theorem x_refa_ok {j n : Nat} (hj : j < 6) (hn : n < 2 ^ 31) (hs : gi Mx 2 j = nI n) : f_X5_refusalOfa (nI j) Mx = some (0, Mx) := by
  unfold f_X5_refusalOfa
  rw [x_knowsa_t hj, jb1_e, if_neg (by decide), x_isTherea_t hj hn hs, jb1_e, if_neg (by decide)]
theorem x_refb_bad {x : Int32} (h : x < 0 ∨ nI 4 ≤ x) : f_X5_refusalOfb x Mx = some (-1, Mx) := by
  unfold f_X5_refusalOfb
  rw [x_knowsb_f h]; rfl
theorem x_refb_no {j : Nat} (hj : j < 4) (hs : gi Mx 11 j = -1) : f_X5_refusalOfb (nI j) Mx = some (-3, si (si Mx 0 9 (nI 1)) 68 1 (gi Mx 68 1 + 1)) := by
  unfold f_X5_refusalOfb
  rw [x_knowsb_t hj, jb1_e, if_neg (by decide), x_isThereb_f hj hs, jb1_e, if_pos rfl, show (1 : Int32) = nI 1 from rfl, x_find (by decide)]; rfl
theorem x_refb_ok {j n : Nat} (hj : j < 4) (hn : n < 2 ^ 31) (hs : gi Mx 11 j = nI n) : f_X5_refusalOfb (nI j) Mx = some (0, Mx) := by
  unfold f_X5_refusalOfb
  rw [x_knowsb_t hj, jb1_e, if_neg (by decide), x_isThereb_t hj hn hs, jb1_e, if_neg (by decide)]
/-- a place of a row, or why not: both sides alike -/
theorem pl_rows (hQ : jStay Q) (h : Rl Q Mx Mm) (a1 a2 : Int32) : (∃ (r : Int32) (Mx' Mm' : jM), f_X5_refusalOfPlacea a1 a2 Mx = some (r, Mx') ∧ f_X6_lacksPlace a1 a2 Mm = some (r, Mm') ∧ Rl Q Mx' Mm' ∧ ¬ r = 0 ∧ ¬ 0 ≤ r) ∨ (∃ j i n : Nat, j < 6 ∧ i < n ∧ n ≤ 40 ∧ a1 = nI j ∧ a2 = nI i ∧ gi Mx 2 j = nI n ∧ f_X5_refusalOfPlacea a1 a2 Mx = some (0, Mx) ∧ f_X6_lacksPlace a1 a2 Mm = some (0, Mm)) := by
  unfold f_X5_refusalOfPlacea f_X6_lacksPlace
  have bad : (a1 < 0 ∨ nI 6 ≤ a1) ∨ ∃ j : Nat, j < 6 ∧ a1 = nI j := by
    rcases jin_of (x := a1) (n := 6) (by decide) with q | q | q
    · exact Or.inl (Or.inl q)
    · exact Or.inl (Or.inr q)
    · exact Or.inr q
  rcases bad with b | ⟨j, hj, rfl⟩
  · left
    rw [x_refa_bad b, m_isRow_f b]
    exact ⟨-1, Mx, Mm, rfl, rfl, h, by decide, by decide⟩
  · obtain ⟨e1, e2, e3⟩ := h.2.1 j hj
    rw [m_isRow_t hj, jb1_e, if_neg (by decide), jg_t (jin_nI hj (by decide)), nI_clamp (show j < 2 ^ 31 by omega), ← e1]
    rcases e2 with e2 | ⟨n, hn, e2⟩
    · left
      rw [x_refa_no hj e2, e2, if_neg m1_neg, show (1 : Int32) = nI 1 from rfl, m_find (by decide)]
      exact ⟨-3, _, _, rfl, rfl, rl_find hQ h (by decide), by decide, by decide⟩
    · rw [x_refa_ok hj (by omega) e2, e2, if_pos (nI_pos' (by omega)), jg_t (jin_nI hj (by decide)), jb2_e, if_pos rfl]
      rcases jin_of (x := a2) (n := n) (by omega) with q | q | ⟨i, hi, rfl⟩
      · left
        rw [show (1 : Int32) = nI 1 from rfl, x_reachesa_f hj e2 (by omega) (by decide) (Or.inl q), jb1_e, if_pos rfl, show (2 : Int32) = nI 2 from rfl, x_find (by decide), show (nI 1 : Int32) = 1 from rfl, m_inS_f (Or.inl q) (by omega), jb1_e, if_pos rfl, m_find (by decide)]
        exact ⟨-3, _, _, rfl, rfl, rl_find hQ h (by decide), by decide, by decide⟩
      · left
        have h0 : ¬ a2 < 0 := fun z => by
          rw [Int32.le_iff_toInt_le, nI_toInt (by omega)] at q
          rw [Int32.lt_iff_toInt_lt] at z
          have e0 : (0 : Int32).toInt = 0 := rfl
          omega
        obtain ⟨i, hi, rfl⟩ := nI_of h0
        have hni : n ≤ i := (nI_leI (by omega) hi).mp q
        rw [show (1 : Int32) = nI 1 from rfl, x_reachesa_f hj e2 (by omega) (by decide) (Or.inr ⟨i, hi, rfl, by omega⟩), jb1_e, if_pos rfl, show (2 : Int32) = nI 2 from rfl, x_find (by decide), show (nI 1 : Int32) = 1 from rfl, m_inS_f (Or.inr q) (by omega), jb1_e, if_pos rfl, m_find (by decide)]
        exact ⟨-3, _, _, rfl, rfl, rl_find hQ h (by decide), by decide, by decide⟩
      · right
        refine ⟨j, i, n, hj, hi, hn, rfl, rfl, e2, ?_, ?_⟩
        · rw [show (1 : Int32) = nI 1 from rfl, x_reachesa_t hj e2 (by omega) (by omega) (by decide) (by omega), jb1_e, if_neg (by decide)]
        · rw [m_inS_t hi (by omega), jb1_e, if_neg (by decide)]
end JR3
