section JR5
variable {Q : jM → jM → Prop} {Mx Mm : jM}
theorem e24 (v : Int32) : (v <<< ((24 : Int32) &&& 31)) >>> ((24 : Int32) &&& 31) = v.toInt8.toInt32 := by
  apply Int32.toInt_inj.mp
  rw [pk_shr _ _ 24 (by decide), Int8.toInt_toInt32]
  have h1 : (v <<< ((24 : Int32) &&& 31)).toBitVec.toNat = v.toBitVec.toNat * 2 ^ 24 % 2 ^ 32 := pk_shl v _ 24 (by decide)
  have h2 : (v <<< ((24 : Int32) &&& 31)).toInt = (v <<< ((24 : Int32) &&& 31)).toBitVec.toInt := rfl
  have h3 : v.toInt8.toInt = v.toInt8.toBitVec.toInt := rfl
  have h4 : v.toInt8.toBitVec.toNat = v.toBitVec.toNat % 256 := by
    rw [Int32.toBitVec_toInt8, BitVec.signExtend_eq_setWidth_of_le _ (by decide), BitVec.toNat_setWidth]
  rw [h2, h3, BitVec.toInt_eq_toNat_cond, BitVec.toInt_eq_toNat_cond, h1, h4, Int.shiftRight_eq_div_pow]
  have h5 := v.toBitVec.isLt
  split <;> split <;> omega
theorem rt_put {j i n : Nat} {v : Int32} (hj : j < 4) (hi : i < n) (hn : n ≤ 80) (h : rt Mx Mm) : rt (si Mx (13 + j) i v) (si Mm 4 (80 * j + i) v) := by
  intro r hr
  obtain ⟨h1, h2, h3⟩ := h r hr
  refine ⟨?_, ?_, fun k hk => ?_⟩
  · rw [gi_si, gi_si, if_neg (by omega), if_neg (by omega)]; exact h1
  · rw [gi_si, if_neg (by omega)]; exact h2
  · rw [gi_si, gi_si]
    by_cases e : r = j ∧ k = i
    · rw [if_pos (by omega), if_pos (by omega)]
    · rw [if_neg (by omega), if_neg (by omega)]; exact h3 k hk
theorem s_put (hQ : jStay Q) : kS_put (Rl Q) := by
  intro a1 a2 a3 Mx Mm h
  unfold f_X5_put f_X6_put f_X5_refusalOfPlaceb
  rcases jcase a1 4 (by decide) with b | ⟨j, hj, rfl⟩
  · rw [x_refb_bad b, m_isText_f b]
    exact ⟨-1, Mx, Mm, rfl, rfl, h⟩
  · obtain ⟨e1, e2, e3⟩ := h.2.2.1 j hj
    rw [m_isText_t hj, jb1_e, if_neg (by decide), jg_t (jin_nI hj (by decide)), nI_clamp (show j < 2 ^ 31 by omega), ← e1]
    rcases e2 with e2 | ⟨n, hn, e2⟩
    · rw [x_refb_no hj e2, e2, if_neg m1_neg, show (1 : Int32) = nI 1 from rfl, m_find (by decide)]
      exact ⟨-3, _, _, rfl, rfl, rl_find hQ h (by decide)⟩
    · rw [x_refb_ok hj (by omega) e2, e2, if_pos (nI_pos' (by omega)), jg_t (jin_nI hj (by decide)), jb2_e, if_pos rfl]
      rcases jin_of (x := a2) (n := n) (by omega) with q | q | ⟨i, hi, rfl⟩
      · rw [show (1 : Int32) = nI 1 from rfl, x_reachesb_f hj e2 (by omega) (by decide) (Or.inl q), jb1_e, if_pos rfl, show (2 : Int32) = nI 2 from rfl, x_find (by decide), show (nI 1 : Int32) = 1 from rfl, m_inS_f (Or.inl q) (by omega), jb1_e, if_pos rfl, m_find (by decide)]
        exact ⟨-3, _, _, rfl, rfl, rl_find hQ h (by decide)⟩
      · have h0 : ¬ a2 < 0 := fun z => by
          rw [Int32.le_iff_toInt_le, nI_toInt (by omega)] at q
          rw [Int32.lt_iff_toInt_lt] at z
          have e0 : (0 : Int32).toInt = 0 := rfl
          omega
        obtain ⟨i, hi, rfl⟩ := nI_of h0
        have hni : n ≤ i := (nI_leI (by omega) hi).mp q
        rw [show (1 : Int32) = nI 1 from rfl, x_reachesb_f hj e2 (by omega) (by decide) (Or.inr ⟨i, hi, rfl, by omega⟩), jb1_e, if_pos rfl, show (2 : Int32) = nI 2 from rfl, x_find (by decide), show (nI 1 : Int32) = 1 from rfl, m_inS_f (Or.inr q) (by omega), jb1_e, if_pos rfl, m_find (by decide)]
        exact ⟨-3, _, _, rfl, rfl, rl_find hQ h (by decide)⟩
      · rw [show (1 : Int32) = nI 1 from rfl, x_reachesb_t hj e2 (by omega) (by omega) (by decide) (by omega), jb1_e, if_neg (by decide), jb2_e, if_pos rfl, show (nI 1 : Int32) = 1 from rfl, m_inS_t hi (by omega), jb1_e, if_neg (by decide), e80, jg_t (jin_nI (show 80 * j + i < 320 by omega) (by decide)), jlet_e, jg_t (jin_nI (show 80 * j + i < 320 by omega) (by decide)), jlet_e, e24, nI_clamp (show 80 * j + i < 2 ^ 31 by omega)]
        unfold f_X4_exchangeb
        rw [jg_t (jin_nI hj (by decide)), jg_t (jin_nI (show i < 80 by omega) (by decide)), jlet_e, jg_t (jin_nI hj (by decide)), jg_t (jin_nI (show i < 80 by omega) (by decide)), jlet_e, jb2_e, nI_clamp (show j < 2 ^ 31 by omega), nI_clamp (show i < 2 ^ 31 by omega), (h.2.2.1 j hj).2.2 i (by omega)]
        exact ⟨_, _, _, rfl, rfl, rl_texts hQ h (fun z hz => stX_si (fun q => hz (q.symm.trans (rg13 hj)))) (fun z hz => stM_si (fun q => hz (q.symm.trans rfl))) (rt_put hj hi hn h.2.2.1)⟩
/-! mean -/
def msum (f : Nat → Int32) : Nat → Int64
  | 0 => 0
  | n + 1 => msum f n + (f n).toInt64
theorem x_sum_loop {j n : Nat} (hj : j < 6) (hn : n ≤ 40) (hs : gi Mx 2 j = nI n) : ∀ (m i : Nat), i ≤ n → n - i < m → f_X4_suma_L5 m (nI j) (msum (gi Mx (4 + j)) i) (nI i) Mx = some (msum (gi Mx (4 + j)) n, nI n)
  | 0, i, _, h => absurd h (Nat.not_lt_zero _)
  | m + 1, i, hi, h => by
    show f_X4_suma_L5_b (f_X4_suma_L5 m) (nI j) _ (nI i) Mx = _
    unfold f_X4_suma_L5_b
    rw [jg_t (jin_nI hj (by decide)), nI_clamp (show j < 2 ^ 31 by omega), hs]
    by_cases hlt : i < n
    · rw [if_neg (nI_ge hlt (by omega)), jg_t (jin_nI hj (by decide)), jg_t (jin_nI (show i < 40 by omega) (by decide)), jlet_e, jlet_e, nI_1, nI_clamp (show i < 2 ^ 31 by omega)]
      exact x_sum_loop hj hn hs m (i + 1) hlt (by omega)
    · have e : i = n := by omega
      subst e
      rw [if_pos (nI_le (Nat.le_refl _) (by omega))]
theorem m_sum_loop {j n : Nat} (hj : j < 6) (hn : n ≤ 40) (hs : gi Mm 1 j = nI n) : ∀ (m i : Nat), i ≤ n → n - i < m → f_X6_mean_L44 m (nI j) (msum (fun k => gi Mm 2 (40 * j + k)) i) (nI i) Mm = some (msum (fun k => gi Mm 2 (40 * j + k)) n, nI n)
  | 0, i, _, h => absurd h (Nat.not_lt_zero _)
  | m + 1, i, hi, h => by
    show f_X6_mean_L44_b (f_X6_mean_L44 m) (nI j) _ (nI i) Mm = _
    unfold f_X6_mean_L44_b
    rw [jg_t (jin_nI hj (by decide)), nI_clamp (show j < 2 ^ 31 by omega), hs]
    by_cases hlt : i < n
    · rw [if_neg (nI_ge hlt (by omega)), e40, jg_t (jin_nI (show 40 * j + i < 240 by omega) (by decide)), jlet_e, jlet_e, nI_1, nI_clamp (show 40 * j + i < 2 ^ 31 by omega)]
      exact m_sum_loop hj hn hs m (i + 1) hlt (by omega)
    · have e : i = n := by omega
      subst e
      rw [if_pos (nI_le (Nat.le_refl _) (by omega))]
theorem msum_cong {f g : Nat → Int32} : ∀ {n : Nat}, (∀ k, k < n → f k = g k) → msum f n = msum g n
  | 0, _ => rfl
  | n + 1, h => by
    show msum f n + _ = msum g n + _
    rw [msum_cong (fun k hk => h k (by omega)), h n (by omega)]
theorem s_mean (hQ : jStay Q) : kS_mean (Rl Q) := by
  intro a1 Mx Mm h
  unfold f_X5_mean f_X6_mean
  rcases jcase a1 6 (by decide) with b | ⟨j, hj, rfl⟩
  · rw [x_refa_bad b, m_isRow_f b]
    exact ⟨-1, Mx, Mm, rfl, rfl, h⟩
  · obtain ⟨e1, e2, e3⟩ := h.2.1 j hj
    rw [m_isRow_t hj, jb1_e, if_neg (by decide), jg_t (jin_nI hj (by decide)), nI_clamp (show j < 2 ^ 31 by omega), ← e1]
    rcases e2 with e2 | ⟨n, hn, e2⟩
    · rw [x_refa_no hj e2, e2, if_neg m1_neg, show (1 : Int32) = nI 1 from rfl, m_find (by decide)]
      exact ⟨-3, _, _, rfl, rfl, rl_find hQ h (by decide)⟩
    · have em : gi Mm 1 j = nI n := by rw [← e1]; exact e2
      rw [x_refa_ok hj (by omega) e2, e2, if_pos (nI_pos' (by omega)), jg_t (jin_nI hj (by decide)), jb2_e, if_pos rfl, jg_t (jin_nI hj (by decide)), e2]
      by_cases hz : n = 0
      · subst hz
        rw [if_pos nI_0, if_pos nI_0, show (4 : Int32) = nI 4 from rfl, x_find (by decide), m_find (by decide)]
        exact ⟨-3, _, _, rfl, rfl, rl_find hQ h (by decide)⟩
      · have hz' : ¬ nI n = 0 := nI_ne0 (by omega) (by omega)
        have hl : ¬ (nI n).toInt64 = 0 := fun q => hz (by rw [nI_l (by omega), show (0 : Int64) = lN 0 from rfl] at q; exact (pk_lEQ (by omega) (by decide)).mp q)
        have s1 : f_X4_suma (nI j) Mx = some (msum (gi Mx (4 + j)) n) := by
          unfold f_X4_suma
          rw [show (0 : Int64) = msum (gi Mx (4 + j)) 0 from rfl, show (0 : Int32) = nI 0 from rfl, x_sum_loop hj hn e2 jfu 0 (by omega) (by unfold jfu; omega)]
          rfl
        have s2 := m_sum_loop hj hn em jfu 0 (Nat.zero_le _) (by unfold jfu; omega)
        have e9 : msum (fun k => gi Mm 2 (40 * j + k)) n = msum (gi Mx (4 + j)) n := msum_cong (fun k hk => (e3 k (by omega)).symm)
        rw [if_neg hz', if_neg hz', s1, jb1_e, show (0 : Int64) = msum (fun k => gi Mm 2 (40 * j + k)) 0 from rfl, show (0 : Int32) = nI 0 from rfl, s2, jb2_e, jg_t (jin_nI hj (by decide)), jg_t (jin_nI hj (by decide)), show msum (fun k => gi Mm 2 (40 * j + k)) 0 = (0 : Int64) from rfl, jg_t (decide_eq_true hl), jg_t (decide_eq_true hl), m_answer, x_tell, jb2_e, jb2_e, e9]
        exact ⟨1, _, _, rfl, rfl, rl_tell hQ h _⟩
end JR5
