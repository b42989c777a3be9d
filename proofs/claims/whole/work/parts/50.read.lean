section JR7
variable {Mx Mm : jM}
/-- the class reads text t of n signs, at place p -/
def rdX (t n p : Nat) (Mx : jM) : Prop := t < 4 ∧ n ≤ 80 ∧ p ≤ n ∧ gi Mx 17 1 = nI (13 + t) ∧ gi Mx 17 2 = nI n ∧ gi Mx 17 3 = nI p
/-- the reference reads text t of n signs, at place p -/
def rdM (t n p : Nat) (Mm : jM) : Prop := t < 4 ∧ n ≤ 80 ∧ p ≤ n ∧ gi Mm 3 t = nI n ∧ gi Mm 0 22 = nI p
theorem gxt {t : Nat} (h : t < 4) : GX[13 + t]? = some (0, 80) := (show ∀ j, j < 4 → GX[13 + j]? = some (0, 80) by decide) t h
theorem x_nx_end {t n : Nat} {a b : Int32} (h : rdX t n n Mx) : f_X3_nextBetween a b Mx = some (-9) := by
  obtain ⟨h1, h2, h3, h4, h5, h6⟩ := h
  unfold f_X3_nextBetween
  rw [h5, h6, if_pos (nI_le (Nat.le_refl _) (by omega))]
theorem x_nx {t n p : Nat} {a b : Int32} (h : rdX t n p Mx) (hp : p < n) : f_X3_nextBetween a b Mx = some (if a ≤ gi Mx (13 + t) p ∧ gi Mx (13 + t) p ≤ b then gi Mx (13 + t) p - a else -9) := by
  obtain ⟨h1, h2, h3, h4, h5, h6⟩ := h
  unfold f_X3_nextBetween
  have g1 : decide (¬ nI (13 + t) < 0) = true := decide_eq_true (nI_pos (by omega))
  have g2 : decide (GX[(nI (13 + t)).toNatClampNeg]? = some (0, 80)) = true := decide_eq_true (by rw [nI_clamp (by omega)]; exact gxt h1)
  have g3 : jin (nI p) 80 = true := jin_nI (by omega) (by decide)
  rw [h5, h6, h4, if_neg (nI_ge hp (by omega))]
  simp only [g1, g2, g3, jg_true]
  rw [nI_clamp (show 13 + t < 2 ^ 31 by omega), nI_clamp (show p < 2 ^ 31 by omega)]
  by_cases c1 : gi Mx (13 + t) p < a
  · rw [if_pos c1, if_neg (fun q => (Int32.not_lt.mpr q.1) c1)]
  · rw [if_neg c1]
    by_cases c2 : gi Mx (13 + t) p ≤ b
    · rw [if_pos c2, if_pos ⟨Int32.not_lt.mp c1, c2⟩]
    · rw [if_neg c2, if_neg (fun q => c2 q.2)]
theorem m_end_t {t n p : Nat} (h : rdM t n p Mm) (hp : p = n) : f_X6_isEnd (nI t) Mm = some 1 := by
  obtain ⟨h1, h2, h3, h4, h5⟩ := h
  unfold f_X6_isEnd
  rw [jg_t (jin_nI h1 (by decide)), nI_clamp (show t < 2 ^ 31 by omega), h4, h5, if_neg (nI_nlt (by omega) (by omega))]
theorem m_end_f {t n p : Nat} (h : rdM t n p Mm) (hp : p < n) : f_X6_isEnd (nI t) Mm = some 0 := by
  obtain ⟨h1, h2, h3, h4, h5⟩ := h
  unfold f_X6_isEnd
  rw [jg_t (jin_nI h1 (by decide)), nI_clamp (show t < 2 ^ 31 by omega), h4, h5, if_pos (nI_lt hp (by omega))]
theorem m_byte_end {t n : Nat} (h : rdM t n n Mm) : f_X6_byteAt (nI t) Mm = some 0 := by
  unfold f_X6_byteAt
  rw [m_end_t h rfl]; rfl
theorem m_byte {t n p : Nat} (h : rdM t n p Mm) (hp : p < n) : f_X6_byteAt (nI t) Mm = some (gi Mm 4 (80 * t + p)) := by
  unfold f_X6_byteAt
  rw [m_end_f h hp, jb1_e, if_pos j00]
  obtain ⟨h1, h2, h3, h4, h5⟩ := h
  rw [h5, e80, jg_t (jin_nI (show 80 * t + p < 320 by omega) (by decide)), nI_clamp (show 80 * t + p < 2 ^ 31 by omega)]
/-- x - a in 0 .. m - 1, with wrap-around, says a ≤ x < a + m -/
theorem jwrap {x : Int32} {a m : Nat} (ha : a < 2 ^ 30) (hm : m < 2 ^ 30) (h0 : 0 < m) : (¬ (x - nI a) < 0 ∧ (x - nI a) ≤ nI m - 1) ↔ (nI a ≤ x ∧ x ≤ nI (a + (m - 1))) := by
  have e1 : (x - nI a).toInt = (x.toInt - a).bmod (2 ^ 32) := by rw [Int32.toInt_sub, nI_toInt (by omega)]
  have r1 := x.toInt_lt
  have r2 := x.le_toInt
  rw [Int32.lt_iff_toInt_lt, Int32.le_iff_toInt_le, Int32.le_iff_toInt_le, Int32.le_iff_toInt_le, e1, nI_toInt (by omega), nI_toInt (by omega), show (1 : Int32) = nI 1 from rfl, pk_sub_toInt hm (by decide)]
  have e0 : (0 : Int32).toInt = 0 := rfl
  rw [e0]
  by_cases hb : -2147483648 ≤ x.toInt - a
  · rw [Int.bmod_eq_of_le (by omega) (by omega)]
    omega
  · have e2 : (x.toInt - a).bmod (2 ^ 32) = x.toInt - a + 2 ^ 32 := by
      rw [Int.bmod_def]
      split <;> omega
    rw [e2]
    omega
theorem m_sign_end {t n : Nat} {a b : Int32} (h : rdM t n n Mm) : f_X6_sign (nI t) a b Mm = some (-1, Mm) := by
  unfold f_X6_sign
  rw [m_byte_end h, jb1_e, jlet_e, m_end_t h rfl, jb1_e, if_neg j10]
theorem m_sign {t n p a m : Nat} (h : rdM t n p Mm) (hp : p < n) (ha : a < 2 ^ 30) (hm : m < 2 ^ 30) (h0 : 0 < m) : f_X6_sign (nI t) (nI a) (nI m) Mm = if nI a ≤ gi Mm 4 (80 * t + p) ∧ gi Mm 4 (80 * t + p) ≤ nI (a + (m - 1)) then some (gi Mm 4 (80 * t + p) - nI a, si Mm 0 22 (nI (p + 1))) else some (-1, Mm) := by
  unfold f_X6_sign
  rw [m_byte h hp, jb1_e, jlet_e, m_end_f h hp, jb1_e, if_pos j00]
  have hw := jwrap (x := gi Mm 4 (80 * t + p)) ha hm h0
  by_cases c : nI a ≤ gi Mm 4 (80 * t + p) ∧ gi Mm 4 (80 * t + p) ≤ nI (a + (m - 1))
  · obtain ⟨w1, w2⟩ := hw.mpr c
    rw [if_pos c, m_in_t (by rw [show (0 : Int64) = (0 : Int32).toInt64 from rfl, jw_lt]; exact w1) (by rw [jw_lt]; exact Int32.not_lt.mpr w2), jb1_e, if_neg j10, jlet_e, h.2.2.2.2, nI_1]
  · rw [if_neg c]
    have w : (gi Mm 4 (80 * t + p) - nI a) < 0 ∨ nI m - 1 < (gi Mm 4 (80 * t + p) - nI a) := by
      by_cases w1 : (gi Mm 4 (80 * t + p) - nI a) < 0
      · exact Or.inl w1
      · exact Or.inr (Int32.not_le.mp (fun w2 => c (hw.mp ⟨w1, w2⟩)))
    rw [m_in_f (by rw [show (0 : Int64) = (0 : Int32).toInt64 from rfl, jw_lt, jw_lt]; exact w), jb1_e, if_pos j00]
/-! blanks -/
def blk (f : Nat → Int32) (n : Nat) : Nat → Nat → Nat
  | 0, p => p
  | m + 1, p => if p < n ∧ f p = 32 then blk f n m (p + 1) else p
theorem blk_le {f : Nat → Int32} {n : Nat} : ∀ (m p : Nat), p ≤ n → blk f n m p ≤ n ∧ p ≤ blk f n m p
  | 0, p, h => ⟨h, Nat.le_refl _⟩
  | m + 1, p, h => by
    unfold blk
    by_cases c : p < n ∧ f p = 32
    · rw [if_pos c]
      have := blk_le (f := f) (n := n) m (p + 1) (by omega)
      omega
    · rw [if_neg c]; exact ⟨h, Nat.le_refl _⟩
end JR7
