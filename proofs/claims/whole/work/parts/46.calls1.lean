section JR4
variable {Q : jM → jM → Prop} {Mx Mm : jM}
theorem jcase (x : Int32) (n : Nat) (hn : n < 2 ^ 31) : (x < 0 ∨ nI n ≤ x) ∨ ∃ j : Nat, j < n ∧ x = nI j := by
  rcases jin_of (x := x) (n := n) hn with q | q | q
  · exact Or.inl (Or.inl q)
  · exact Or.inl (Or.inr q)
  · exact Or.inr q
/-- a write of rows alone keeps the rest -/
theorem rl_rows (hQ : jStay Q) (h : Rl Q Mx Mm) {Mx' Mm' : jM} (sx : ∀ j, j ≠ 1 → stX j Mx Mx') (sm : ∀ j, j ≠ 1 → stM j Mm Mm') (hr : rr Mx' Mm') : Rl Q Mx' Mm' :=
  ⟨ra_stay (sx 0 (by decide)) (sm 0 (by decide)) h.1, hr, rt_stay (sx 2 (by decide)) (sm 2 (by decide)) h.2.2.1, hQ _ _ _ _ (fun j hj => ⟨sx j (by omega), sm j (by omega)⟩) h.2.2.2⟩
theorem rl_texts (hQ : jStay Q) (h : Rl Q Mx Mm) {Mx' Mm' : jM} (sx : ∀ j, j ≠ 2 → stX j Mx Mx') (sm : ∀ j, j ≠ 2 → stM j Mm Mm') (hr : rt Mx' Mm') : Rl Q Mx' Mm' :=
  ⟨ra_stay (sx 0 (by decide)) (sm 0 (by decide)) h.1, rr_stay (sx 1 (by decide)) (sm 1 (by decide)) h.2.1, hr, hQ _ _ _ _ (fun j hj => ⟨sx j (by omega), sm j (by omega)⟩) h.2.2.2⟩
theorem stM_jff {j : Nat} {M : jM} {o i n : Nat} {v : Int32} (h : ∀ k, rgM o k ≠ j) : stM j M (jff M o i n v) := fun a b hj => by
  refine ⟨?_, rfl⟩
  rw [gi_jff, if_neg (by intro q; exact h b (q.1 ▸ hj))]
theorem s_row (hQ : jStay Q) : kS_row (Rl Q) := by
  intro a1 a2 Mx Mm h
  rcases jcase a1 6 (by decide) with b | ⟨j, hj, rfl⟩
  · refine ⟨-1, Mx, Mm, ?_, ?_, h⟩
    · unfold f_X5_row; rw [x_knowsa_f b]; rfl
    · unfold f_X6_row; rw [m_isRow_f b]; rfl
  · by_cases h40 : a2 ≤ 40
    · by_cases h0 : 0 ≤ a2
      · obtain ⟨n, hn, rfl⟩ := nI_of2 (x := a2) (M := 40) (n := 40) rfl (Int32.not_lt.mpr h0) h40
        refine ⟨nI n, _, _, x_row hj hn, m_row hj hn, rl_rows hQ h (fun i hi => stX_tr (stX_si (fun q => hi (q.symm.trans rfl))) (stX_jff (fun q => hi (q.symm.trans (rg4 hj))))) (fun i hi => stM_tr (stM_si (fun q => hi (q.symm.trans rfl))) (stM_jff (fun k q => hi (q.symm.trans rfl)))) (rr_row hj (Or.inr ⟨n, hn, rfl⟩) h.2.1)⟩
      · refine ⟨-3, _, _, ?_, ?_, rl_find hQ h (f := 5) (by decide)⟩
        · unfold f_X5_row; rw [x_knowsa_t hj, jb1_e, if_neg (by decide), if_pos h40, if_neg h0, show (5 : Int32) = nI 5 from rfl, x_find (by decide)]; rfl
        · unfold f_X6_row; rw [m_isRow_t hj, jb1_e, if_neg (by decide), if_pos h40, if_neg h0, show (5 : Int32) = nI 5 from rfl, m_find (by decide)]; rfl
    · refine ⟨-1, Mx, Mm, ?_, ?_, h⟩
      · unfold f_X5_row; rw [x_knowsa_t hj, jb1_e, if_neg (by decide), if_neg h40]
      · unfold f_X6_row; rw [m_isRow_t hj, jb1_e, if_neg (by decide), if_neg h40]
theorem rr_lay {j i n : Nat} {v : Int32} (hj : j < 6) (hi : i < n) (hn : n ≤ 40) (h : rr Mx Mm) : rr (si Mx (4 + j) i v) (si Mm 2 (40 * j + i) v) := by
  intro r hr
  obtain ⟨h1, h2, h3⟩ := h r hr
  refine ⟨?_, ?_, fun k hk => ?_⟩
  · rw [gi_si, gi_si, if_neg (by omega), if_neg (by omega)]; exact h1
  · rw [gi_si, if_neg (by omega)]; exact h2
  · rw [gi_si, gi_si]
    by_cases e : r = j ∧ k = i
    · rw [if_pos (by omega), if_pos (by omega)]
    · rw [if_neg (by omega), if_neg (by omega)]; exact h3 k hk
theorem rl_lay (hQ : jStay Q) (h : Rl Q Mx Mm) {j i n : Nat} {v : Int32} (hj : j < 6) (hi : i < n) (hn : n ≤ 40) : Rl Q (si Mx (4 + j) i v) (si Mm 2 (40 * j + i) v) :=
  rl_rows hQ h (fun z hz => stX_si (fun q => hz (q.symm.trans (rg4 hj)))) (fun z hz => stM_si (fun q => hz (q.symm.trans rfl))) (rr_lay hj hi hn h.2.1)
theorem s_lay (hQ : jStay Q) : kS_lay (Rl Q) := by
  intro a1 a2 a3 Mx Mm h
  unfold f_X5_lay f_X6_lay
  rcases pl_rows hQ h a1 a2 with ⟨r, Mx', Mm', p1, p2, p3, p4, p5⟩ | ⟨j, i, n, hj, hi, hn, rfl, rfl, e2, p1, p2⟩
  · rw [p1, p2, jb2_e, jb2_e, if_neg p4, if_neg p5]
    exact ⟨r, Mx', Mm', rfl, rfl, p3⟩
  · rw [p1, p2, jb2_e, jb2_e, if_pos rfl, if_pos (by decide), e40, jg_t (jin_nI (by omega) (by decide)), jlet_e, jg_t (jin_nI (by omega) (by decide)), jlet_e, m_answer, jb2_e, nI_clamp (by omega)]
    unfold f_X4_exchangea
    rw [jg_t (jin_nI hj (by decide)), jg_t (jin_nI (show i < 40 by omega) (by decide)), jlet_e, jg_t (jin_nI hj (by decide)), jg_t (jin_nI (show i < 40 by omega) (by decide)), jlet_e, jb2_e, x_tell, jb2_e, nI_clamp (by omega), nI_clamp (by omega), (h.2.1 j hj).2.2 i (by omega)]
    exact ⟨1, _, _, rfl, rfl, rl_tell hQ (rl_lay hQ h hj hi hn) _⟩
theorem s_at (hQ : jStay Q) : kS_at (Rl Q) := by
  intro a1 a2 Mx Mm h
  unfold f_X5_at f_X6_at
  rcases pl_rows hQ h a1 a2 with ⟨r, Mx', Mm', p1, p2, p3, p4, p5⟩ | ⟨j, i, n, hj, hi, hn, rfl, rfl, e2, p1, p2⟩
  · rw [p1, p2, jb2_e, jb2_e, if_neg p4, if_neg p5]
    exact ⟨r, Mx', Mm', rfl, rfl, p3⟩
  · rw [p1, p2, jb2_e, jb2_e, if_pos rfl, if_pos (by decide), e40, jg_t (jin_nI hj (by decide)), jg_t (jin_nI (show i < 40 by omega) (by decide)), jg_t (jin_nI (show 40 * j + i < 240 by omega) (by decide)), m_answer, jb2_e, x_tell, jb2_e, nI_clamp (show j < 2 ^ 31 by omega), nI_clamp (show i < 2 ^ 31 by omega), nI_clamp (show 40 * j + i < 2 ^ 31 by omega), (h.2.1 j hj).2.2 i (by omega)]
    exact ⟨1, _, _, rfl, rfl, rl_tell hQ h _⟩
theorem rr_tear {j : Nat} (hj : j < 6) (h : rr Mx Mm) : rr (si Mx 2 j (-1)) (si Mm 1 j (-1)) := by
  intro r hr
  obtain ⟨h1, h2, h3⟩ := h r hr
  rw [gi_si, gi_si]
  refine ⟨?_, ?_, fun k hk => ?_⟩
  · by_cases e : r = j
    · rw [if_pos ⟨rfl, e⟩, if_pos ⟨rfl, e⟩]
    · rw [if_neg (fun q => e q.2), if_neg (fun q => e q.2)]; exact h1
  · by_cases e : r = j
    · rw [if_pos ⟨rfl, e⟩]; exact Or.inl rfl
    · rw [if_neg (fun q => e q.2)]; exact h2
  · rw [gi_si, gi_si, if_neg (by omega), if_neg (by omega)]; exact h3 k hk
theorem s_tear (hQ : jStay Q) : kS_tear (Rl Q) := by
  intro a1 Mx Mm h
  unfold f_X5_tear f_X6_tear
  rcases jcase a1 6 (by decide) with b | ⟨j, hj, rfl⟩
  · rw [x_refa_bad b, m_isRow_f b]
    exact ⟨-1, Mx, Mm, rfl, rfl, h⟩
  · obtain ⟨e1, e2, e3⟩ := h.2.1 j hj
    rw [m_isRow_t hj, jb1_e, if_neg (by decide), jg_t (jin_nI hj (by decide)), nI_clamp (show j < 2 ^ 31 by omega), ← e1]
    rcases e2 with e2 | ⟨n, hn, e2⟩
    · rw [x_refa_no hj e2, e2, if_neg m1_neg, show (1 : Int32) = nI 1 from rfl, m_find (by decide)]
      exact ⟨-3, _, _, rfl, rfl, rl_find hQ h (by decide)⟩
    · rw [x_refa_ok hj (by omega) e2, e2, if_pos (nI_pos' (by omega)), jg_t (jin_nI hj (by decide)), jb2_e, if_pos rfl, jg_t (jin_nI hj (by decide)), jlet_e, jlet_e]
      exact ⟨1, _, _, rfl, rfl, rl_rows hQ h (fun z hz => stX_si (fun q => hz (q.symm.trans rfl))) (fun z hz => stM_si (fun q => hz (q.symm.trans rfl))) (rr_tear hj h.2.1)⟩
/-! texts -/
theorem rt_text {j : Nat} {v : Int32} (hj : j < 4) (hv : v = -1 ∨ ∃ n, n ≤ 80 ∧ v = nI n) (h : rt Mx Mm) : rt (jff (si Mx 11 j v) (13 + j) 0 80 32) (jff (si Mm 3 j v) 4 (80 * j) (80 * j + 80) 32) := by
  intro r hr
  obtain ⟨h1, h2, h3⟩ := h r hr
  have g1 : gi (jff (si Mx 11 j v) (13 + j) 0 80 32) 11 r = if r = j then v else gi Mx 11 r := by
    rw [gi_jff, if_neg (by omega), gi_si]; simp
  have g2 : gi (jff (si Mm 3 j v) 4 (80 * j) (80 * j + 80) 32) 3 r = if r = j then v else gi Mm 3 r := by
    rw [gi_jff, if_neg (by omega), gi_si]; simp
  rw [g1, g2]
  refine ⟨?_, ?_, fun k hk => ?_⟩
  · by_cases e : r = j
    · rw [if_pos e, if_pos e]
    · rw [if_neg e, if_neg e]; exact h1
  · by_cases e : r = j
    · rw [if_pos e]; exact hv
    · rw [if_neg e]; exact h2
  · rw [gi_jff, gi_jff, gi_si, gi_si, if_neg (show ¬ (13 + r = 11 ∧ k = j) by omega), if_neg (show ¬ (4 = 3 ∧ 80 * r + k = j) by omega)]
    by_cases e : r = j
    · subst e
      rw [if_pos ⟨rfl, by omega, hk⟩, if_pos ⟨rfl, by omega, by omega⟩]
    · rw [if_neg (by omega), if_neg (by omega)]
      exact h3 k hk
theorem s_text (hQ : jStay Q) : kS_text (Rl Q) := by
  intro a1 a2 Mx Mm h
  rcases jcase a1 4 (by decide) with b | ⟨j, hj, rfl⟩
  · refine ⟨-1, Mx, Mm, ?_, ?_, h⟩
    · unfold f_X5_text; rw [x_knowsb_f b]; rfl
    · unfold f_X6_text; rw [m_isText_f b]; rfl
  · by_cases h80 : a2 ≤ 80
    · by_cases h0 : 0 ≤ a2
      · obtain ⟨n, hn, rfl⟩ := nI_of2 (x := a2) (M := 80) (n := 80) rfl (Int32.not_lt.mpr h0) h80
        refine ⟨nI n, jff (si Mx 11 j (nI n)) (13 + j) 0 80 32, jff (si Mm 3 j (nI n)) 4 (80 * j) (80 * j + 80) 32, ?_, ?_, rl_texts hQ h (fun i hi => stX_tr (stX_si (fun q => hi (q.symm.trans rfl))) (stX_jff (fun q => hi (q.symm.trans (rg13 hj))))) (fun i hi => stM_tr (stM_si (fun q => hi (q.symm.trans rfl))) (stM_jff (fun k q => hi (q.symm.trans rfl)))) (rt_text hj (Or.inr ⟨n, hn, rfl⟩) h.2.2.1)⟩
        · unfold f_X5_text
          rw [x_knowsb_t hj, jb1_e, if_neg (by decide), if_pos h80, if_pos h0, x_beginb hj (n := 0)]; rfl
        · unfold f_X6_text
          rw [m_isText_t hj, jb1_e, if_neg (by decide), if_pos h80, if_pos h0, jg_t (jin_nI hj (by decide)), jlet_e, nI_clamp (by omega), show (0 : Int32) = nI 0 from rfl, m_text_loop hj jfu 0 _ (by decide) (by decide)]; rfl
      · refine ⟨-3, _, _, ?_, ?_, rl_find hQ h (f := 5) (by decide)⟩
        · unfold f_X5_text; rw [x_knowsb_t hj, jb1_e, if_neg (by decide), if_pos h80, if_neg h0, show (5 : Int32) = nI 5 from rfl, x_find (by decide)]; rfl
        · unfold f_X6_text; rw [m_isText_t hj, jb1_e, if_neg (by decide), if_pos h80, if_neg h0, show (5 : Int32) = nI 5 from rfl, m_find (by decide)]; rfl
    · refine ⟨-1, Mx, Mm, ?_, ?_, h⟩
      · unfold f_X5_text; rw [x_knowsb_t hj, jb1_e, if_neg (by decide), if_neg h80]
      · unfold f_X6_text; rw [m_isText_t hj, jb1_e, if_neg (by decide), if_neg h80]
end JR4
