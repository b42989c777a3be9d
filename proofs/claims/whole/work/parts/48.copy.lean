section JR6
variable {Q : jM → jM → Prop} {Mx Mm : jM}
theorem jcp_step (M : jM) (f : Nat → Int32) (sp b dp k : Nat) : si (jcp M f sp b dp k) b (dp + k) (f (sp + k)) = jcp M f sp b dp (k + 1) := by
  unfold jcp si
  refine Prod.ext (funext fun o => funext fun z => ?_) rfl
  show (if o = b ∧ z = dp + k then f (sp + k) else if o = b ∧ dp ≤ z ∧ z < dp + k then f (sp + (z - dp)) else M.1 o z) = if o = b ∧ dp ≤ z ∧ z < dp + (k + 1) then f (sp + (z - dp)) else M.1 o z
  by_cases ho : o = b
  · by_cases hz : z = dp + k
    · rw [if_pos ⟨ho, hz⟩, if_pos ⟨ho, by omega, by omega⟩, show z - dp = k by omega]
    · rw [if_neg (fun q => hz q.2)]
      by_cases h2 : dp ≤ z ∧ z < dp + k
      · rw [if_pos ⟨ho, h2⟩, if_pos ⟨ho, h2.1, by omega⟩]
      · rw [if_neg (fun q => h2 q.2), if_neg (fun q => h2 ⟨q.2.1, by omega⟩)]
  · rw [if_neg (fun q => ho q.1), if_neg (fun q => ho q.1), if_neg (fun q => ho q.1)]
theorem jcp_0 (M : jM) (f : Nat → Int32) (sp b dp : Nat) : jcp M f sp b dp 0 = M := by
  unfold jcp
  refine Prod.ext (funext fun o => funext fun z => ?_) rfl
  show (if o = b ∧ dp ≤ z ∧ z < dp + 0 then f (sp + (z - dp)) else M.1 o z) = M.1 o z
  rw [if_neg (by omega)]
theorem m_copy1 {a i n : Nat} (ha : a < 6) (hi : i + n ≤ 40) : ∀ (m k : Nat), k ≤ n → n - k < m → f_X6_copy_L101 m (nI a) (nI i) (nI n) (nI k) (jcp Mm (gi Mm 2) (40 * a + i) 15 0 k) = some (nI n, jcp Mm (gi Mm 2) (40 * a + i) 15 0 n)
  | 0, k, _, h => absurd h (Nat.not_lt_zero _)
  | m + 1, k, hk, h => by
    show f_X6_copy_L101_b (f_X6_copy_L101 m) (nI a) (nI i) (nI n) (nI k) _ = _
    unfold f_X6_copy_L101_b
    by_cases hlt : k < n
    · rw [if_neg (nI_ge hlt (by omega)), e40, nI_add, jg_t (jin_nI (show 40 * a + i + k < 240 by omega) (by decide)), jg_t (jin_nI (show k < 40 by omega) (by decide)), jlet_e, jlet_e, nI_1, nI_clamp (show k < 2 ^ 31 by omega), nI_clamp (show 40 * a + i + k < 2 ^ 31 by omega)]
      rw [show gi (jcp Mm (gi Mm 2) (40 * a + i) 15 0 k) 2 (40 * a + i + k) = gi Mm 2 (40 * a + i + k) from by rw [gi_jcp, if_neg (by omega)]]
      have e := jcp_step Mm (gi Mm 2) (40 * a + i) 15 0 k
      rw [Nat.zero_add] at e
      rw [e]
      exact m_copy1 ha hi m (k + 1) hlt (by omega)
    · have e : k = n := by omega
      subst e
      rw [if_pos (nI_le (Nat.le_refl _) (by omega))]
theorem m_copy2 {b j n : Nat} (hb : b < 6) (hj : j + n ≤ 40) : ∀ (m k : Nat), k ≤ n → n - k < m → f_X6_copy_L138 m (nI b) (nI j) (nI n) (nI k) (jcp Mm (gi Mm 15) 0 2 (40 * b + j) k) = some (nI n, jcp Mm (gi Mm 15) 0 2 (40 * b + j) n)
  | 0, k, _, h => absurd h (Nat.not_lt_zero _)
  | m + 1, k, hk, h => by
    show f_X6_copy_L138_b (f_X6_copy_L138 m) (nI b) (nI j) (nI n) (nI k) _ = _
    unfold f_X6_copy_L138_b
    by_cases hlt : k < n
    · rw [if_neg (nI_ge hlt (by omega)), e40, nI_add, jg_t (jin_nI (show k < 40 by omega) (by decide)), jg_t (jin_nI (show 40 * b + j + k < 240 by omega) (by decide)), jlet_e, jlet_e, nI_1, nI_clamp (show k < 2 ^ 31 by omega), nI_clamp (show 40 * b + j + k < 2 ^ 31 by omega)]
      rw [show gi (jcp Mm (gi Mm 15) 0 2 (40 * b + j) k) 15 k = gi Mm 15 k from by rw [gi_jcp, if_neg (by omega)]]
      have e := jcp_step Mm (gi Mm 15) 0 2 (40 * b + j) k
      rw [Nat.zero_add] at e
      rw [e]
      exact m_copy2 hb hj m (k + 1) hlt (by omega)
    · have e : k = n := by omega
      subst e
      rw [if_pos (nI_le (Nat.le_refl _) (by omega))]
theorem jsubL {s n : Nat} (hs : s < 2 ^ 31) (hn : n < 2 ^ 31) : ((nI s).toInt64 - (nI n).toInt64).toInt = (s : Int) - n := by
  rw [Int64.toInt_sub, Int32.toInt_toInt64, Int32.toInt_toInt64, nI_toInt hs, nI_toInt hn]
  exact Int.bmod_eq_of_le (by omega) (by omega)
theorem m_inD_t {i n s : Nat} {M : jM} (h : i + n ≤ s) (hs : s < 2 ^ 31) : f_X6_in (nI i).toInt64 0 ((nI s).toInt64 - (nI n).toInt64) M = some 1 := by
  refine m_in_t ?_ ?_
  · rw [show (0 : Int64) = (nI 0).toInt64 from rfl, jw_lt]; exact nI_pos (by omega)
  · rw [Int64.lt_iff_toInt_lt, jsubL hs (by omega), Int32.toInt_toInt64, nI_toInt (by omega)]; omega
theorem m_inD_f {x : Int32} {n s : Nat} {M : jM} (h : x < 0 ∨ ∃ i, i < 2 ^ 31 ∧ x = nI i ∧ s < i + n) (hs : s < 2 ^ 31) (hn : n < 2 ^ 31) : f_X6_in x.toInt64 0 ((nI s).toInt64 - (nI n).toInt64) M = some 0 := by
  refine m_in_f ?_
  rcases h with h | ⟨i, hi, rfl, h⟩
  · left; rw [show (0 : Int64) = (0 : Int32).toInt64 from rfl, jw_lt]; exact h
  · right
    rw [Int64.lt_iff_toInt_lt, jsubL hs hn, Int32.toInt_toInt64, nI_toInt hi]; omega
theorem jpart (x : Int32) (n s : Nat) : (x < 0 ∨ ∃ i, i < 2 ^ 31 ∧ x = nI i ∧ s < i + n) ∨ ∃ i : Nat, x = nI i ∧ i + n ≤ s := by
  by_cases h0 : x < 0
  · exact Or.inl (Or.inl h0)
  · obtain ⟨i, hi, rfl⟩ := nI_of h0
    by_cases h : i + n ≤ s
    · exact Or.inr ⟨i, rfl, h⟩
    · exact Or.inl (Or.inr ⟨i, hi, rfl, by omega⟩)
theorem rr_copy {a b i j n : Nat} (ha : a < 6) (hb : b < 6) (hi : i + n ≤ 40) (hj : j + n ≤ 40) (h : rr Mx Mm) : rr (jcp Mx (gi Mx (4 + a)) i (4 + b) j n) (jcp (jcp Mm (gi Mm 2) (40 * a + i) 15 0 n) (gi (jcp Mm (gi Mm 2) (40 * a + i) 15 0 n) 15) 0 2 (40 * b + j) n) := by
  intro r hr
  obtain ⟨h1, h2, h3⟩ := h r hr
  refine ⟨?_, ?_, fun k hk => ?_⟩
  · rw [gi_jcp, if_neg (by omega), gi_jcp, if_neg (by omega), gi_jcp, if_neg (by omega)]; exact h1
  · rw [gi_jcp, if_neg (by omega)]; exact h2
  · rw [gi_jcp, gi_jcp]
    by_cases e : r = b ∧ j ≤ k ∧ k < j + n
    · rw [if_pos (by omega), if_pos (by omega), gi_jcp, if_pos (by omega)]
      rw [(h a ha).2.2 (i + (k - j)) (by omega)]
      congr 1
      omega
    · rw [if_neg (by omega), if_neg (by omega), gi_jcp, if_neg (by omega)]; exact h3 k hk
theorem stM_jcp {j : Nat} {M : jM} {f : Nat → Int32} {sp b dp n : Nat} (h : ∀ k, rgM b k ≠ j) : stM j M (jcp M f sp b dp n) := fun a k hj => by
  refine ⟨?_, rfl⟩
  rw [gi_jcp, if_neg (by intro q; exact h k (q.1 ▸ hj))]
theorem j10 : ¬ (1 : Int32) = 0 := by decide
theorem j00 : (0 : Int32) = 0 := rfl
theorem jg_true {β : Type} (a : Option β) : jg true a = a := rfl
theorem s_copy (hQ : jStay Q) : kS_copy (Rl Q) := by
  intro a1 a2 a3 a4 a5 Mx Mm h
  unfold f_X5_copy f_X6_copy
  rcases jcase a1 6 (by decide) with b | ⟨a, ha, rfl⟩
  · rw [x_knowsa_f b, m_isRow_f b]
    exact ⟨-1, Mx, Mm, rfl, rfl, h⟩
  rw [x_knowsa_t ha, m_isRow_t ha, jb1_e, jb1_e, if_neg j10, if_neg j10]
  rcases jcase a3 6 (by decide) with b | ⟨b, hb, rfl⟩
  · rw [x_knowsa_f b, m_isRow_f b]
    exact ⟨-1, Mx, Mm, rfl, rfl, h⟩
  rw [x_knowsa_t hb, m_isRow_t hb, jb1_e, jb1_e, if_neg j10, if_neg j10]
  by_cases h5 : 0 ≤ a5
  · obtain ⟨n, hn, rfl⟩ := nI_of (Int32.not_lt.mpr h5)
    rw [if_pos h5, if_pos h5]
    simp only [jin_nI ha (show 6 < 2 ^ 31 by decide), jin_nI hb (show 6 < 2 ^ 31 by decide), jg_true, nI_clamp (show a < 2 ^ 31 by omega), nI_clamp (show b < 2 ^ 31 by omega)]
    obtain ⟨e1, e2, e3⟩ := h.2.1 a ha
    obtain ⟨g1, g2, g3⟩ := h.2.1 b hb
    rw [← e1]
    rcases e2 with e2 | ⟨sa, hsa, e2⟩
    · rw [x_isTherea_f ha e2, jb1_e, if_pos j00, e2, if_pos (by decide), show (1 : Int32) = nI 1 from rfl, x_find (by decide), m_find (by decide)]
      exact ⟨-3, _, _, rfl, rfl, rl_find hQ h (by decide)⟩
    rw [x_isTherea_t ha (by omega) e2, jb1_e, if_neg j10, e2, if_neg (nI_pos (by omega)), ← g1]
    rcases g2 with g2 | ⟨sb, hsb, g2⟩
    · rw [x_isTherea_f hb g2, jb1_e, if_pos j00, g2, if_neg m1_neg, show (1 : Int32) = nI 1 from rfl, x_find (by decide), m_find (by decide)]
      exact ⟨-3, _, _, rfl, rfl, rl_find hQ h (by decide)⟩
    rw [x_isTherea_t hb (by omega) g2, jb1_e, if_neg j10, g2, if_pos (nI_pos' (by omega))]
    rcases jpart a2 n sa with z | ⟨i, rfl, hi⟩
    · rw [x_reachesa_f ha e2 (by omega) hn z, m_inD_f z (by omega) hn, jb1_e, jb1_e, if_pos j00, if_pos j00, show (2 : Int32) = nI 2 from rfl, x_find (by decide), m_find (by decide)]
      exact ⟨-3, _, _, rfl, rfl, rl_find hQ h (by decide)⟩
    rw [x_reachesa_t ha e2 (by omega) (by omega) hn hi, m_inD_t hi (by omega), jb1_e, jb1_e, if_neg j10, if_neg j10]
    rcases jpart a4 n sb with z | ⟨j, rfl, hj⟩
    · rw [x_reachesa_f hb g2 (by omega) hn z, m_inD_f z (by omega) hn, jb1_e, jb1_e, if_pos j00, if_pos j00, show (2 : Int32) = nI 2 from rfl, x_find (by decide), m_find (by decide)]
      exact ⟨-3, _, _, rfl, rfl, rl_find hQ h (by decide)⟩
    rw [x_reachesa_t hb g2 (by omega) (by omega) hn hj, m_inD_t hj (by omega), jb1_e, jb1_e, if_neg j10, if_neg j10]
    have hok : jcok (nI i) (nI j) (nI n) 40 40 = true := by
      unfold jcok
      simp only [Bool.and_eq_true, decide_eq_true_eq]
      rw [nI_clamp (show i < 2 ^ 31 by omega), nI_clamp (show j < 2 ^ 31 by omega), nI_clamp hn]
      exact ⟨⟨⟨⟨nI_pos (by omega), nI_pos (by omega)⟩, nI_pos hn⟩, by omega⟩, by omega⟩
    have c1 := m_copy1 (Mm := Mm) ha (show i + n ≤ 40 by omega) jfu 0 (Nat.zero_le _) (by unfold jfu; omega)
    rw [jcp_0] at c1
    have c2 := m_copy2 (Mm := jcp Mm (gi Mm 2) (40 * a + i) 15 0 n) hb (show j + n ≤ 40 by omega) jfu 0 (Nat.zero_le _) (by unfold jfu; omega)
    rw [jcp_0] at c2
    rw [jg_t hok, jlet_e, show (0 : Int32) = nI 0 from rfl, c1, jb2_e, c2, jb2_e, nI_clamp (show i < 2 ^ 31 by omega), nI_clamp (show j < 2 ^ 31 by omega), nI_clamp hn]
    exact ⟨1, _, _, rfl, rfl, ra_stay (stX_jcp (fun q => absurd ((rg4 hb).symm.trans q) (by decide))) (stM_tr (stM_jcp (fun k q => absurd q (by simp [rgM]))) (stM_jcp (fun k q => absurd q (by simp [rgM])))) h.1, rr_copy ha hb (by omega) (by omega) h.2.1, rt_stay (stX_jcp (fun q => absurd ((rg4 hb).symm.trans q) (by decide))) (stM_tr (stM_jcp (fun k q => absurd q (by simp [rgM]))) (stM_jcp (fun k q => absurd q (by simp [rgM])))) h.2.2.1, hQ _ _ _ _ (fun z hz => ⟨stX_jcp (fun q => by have := (rg4 hb).symm.trans q; omega), stM_tr (stM_jcp (fun k q => by have e9 : rgM 15 k = 6 := rfl; omega)) (stM_jcp (fun k q => by have e9 : rgM 2 k = 1 := rfl; omega))⟩) h.2.2.2⟩
  · rw [if_neg h5, if_neg h5, show (5 : Int32) = nI 5 from rfl, x_find (by decide), m_find (by decide)]
    exact ⟨-3, _, _, rfl, rfl, rl_find hQ h (by decide)⟩
end JR6
