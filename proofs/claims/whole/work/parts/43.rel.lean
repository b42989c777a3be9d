/-! the relation: what is told, rows, texts; Q: plan, course, kept -/
def ra (Mx Mm : jM) : Prop := gi Mx 0 9 = gi Mm 0 19 ∧ gi Mx 0 10 = gi Mm 0 16 ∧ gl Mx 0 11 = gl Mm 0 17 ∧ gl Mx 0 12 = gl Mm 0 18 ∧ ∀ f, f < 6 → gi Mx 68 f = gi Mm 14 f
def rr (Mx Mm : jM) : Prop := ∀ r, r < 6 → gi Mx 2 r = gi Mm 1 r ∧ (gi Mx 2 r = -1 ∨ ∃ n, n ≤ 40 ∧ gi Mx 2 r = nI n) ∧ ∀ k, k < 40 → gi Mx (4 + r) k = gi Mm 2 (40 * r + k)
def rt (Mx Mm : jM) : Prop := ∀ r, r < 4 → gi Mx 11 r = gi Mm 3 r ∧ (gi Mx 11 r = -1 ∨ ∃ n, n ≤ 80 ∧ gi Mx 11 r = nI n) ∧ ∀ k, k < 80 → gi Mx (13 + r) k = gi Mm 4 (80 * r + k)
def jStay (Q : jM → jM → Prop) : Prop := ∀ Mx Mx' Mm Mm' : jM, (∀ j, j = 3 ∨ j = 4 ∨ j = 5 → stX j Mx Mx' ∧ stM j Mm Mm') → Q Mx Mm → Q Mx' Mm'
def Rl (Q : jM → jM → Prop) (Mx Mm : jM) : Prop := ra Mx Mm ∧ rr Mx Mm ∧ rt Mx Mm ∧ Q Mx Mm
theorem ra_stay {Mx Mx' Mm Mm' : jM} (hx : stX 0 Mx Mx') (hm : stM 0 Mm Mm') (h : ra Mx Mm) : ra Mx' Mm' := by
  obtain ⟨h1, h2, h3, h4, h5⟩ := h
  refine ⟨?_, ?_, ?_, ?_, fun f hf => ?_⟩
  · rw [(hx 0 9 rfl).1, (hm 0 19 rfl).1]; exact h1
  · rw [(hx 0 10 rfl).1, (hm 0 16 rfl).1]; exact h2
  · rw [(hx 0 11 rfl).2, (hm 0 17 rfl).2]; exact h3
  · rw [(hx 0 12 rfl).2, (hm 0 18 rfl).2]; exact h4
  · rw [(hx 68 f rfl).1, (hm 14 f rfl).1]; exact h5 f hf
theorem rg4 {r : Nat} (h : r < 6) : rgX (4 + r) = 1 := by
  rcases (show r = 0 ∨ r = 1 ∨ r = 2 ∨ r = 3 ∨ r = 4 ∨ r = 5 by omega) with rfl | rfl | rfl | rfl | rfl | rfl <;> rfl
theorem rg13 {r : Nat} (h : r < 4) : rgX (13 + r) = 2 := by
  rcases (show r = 0 ∨ r = 1 ∨ r = 2 ∨ r = 3 by omega) with rfl | rfl | rfl | rfl <;> rfl
theorem rr_stay {Mx Mx' Mm Mm' : jM} (hx : stX 1 Mx Mx') (hm : stM 1 Mm Mm') (h : rr Mx Mm) : rr Mx' Mm' := by
  intro r hr
  obtain ⟨h1, h2, h3⟩ := h r hr
  rw [(hx 2 r rfl).1, (hm 1 r rfl).1]
  exact ⟨h1, h2, fun k hk => by rw [(hx (4 + r) k (rg4 hr)).1, (hm 2 _ rfl).1]; exact h3 k hk⟩
theorem rt_stay {Mx Mx' Mm Mm' : jM} (hx : stX 2 Mx Mx') (hm : stM 2 Mm Mm') (h : rt Mx Mm) : rt Mx' Mm' := by
  intro r hr
  obtain ⟨h1, h2, h3⟩ := h r hr
  rw [(hx 11 r rfl).1, (hm 3 r rfl).1]
  exact ⟨h1, h2, fun k hk => by rw [(hx (13 + r) k (rg13 hr)).1, (hm 4 _ rfl).1]; exact h3 k hk⟩
section JR
variable {Q : jM → jM → Prop} {Mx Mm : jM}
theorem x_find {f : Nat} (h : f < 6) : f_X5_find (nI f) Mx = some (-3, si (si Mx 0 9 (nI f)) 68 f (gi Mx 68 f + 1)) := by
  unfold f_X5_find
  rw [jlet_e, jg_t (jin_nI h (by decide)), jg_t (jin_nI h (by decide)), jlet_e, nI_clamp (by omega)]
  rw [show gi (si Mx 0 9 (nI f)) 68 f = gi Mx 68 f from by rw [gi_si, if_neg (by omega)]]
theorem m_find {f : Nat} (h : f < 6) : f_X6_find (nI f) Mm = some (-3, si (si Mm 0 19 (nI f)) 14 f (gi Mm 14 f + 1)) := by
  unfold f_X6_find
  rw [jlet_e, jg_t (jin_nI h (by decide)), jg_t (jin_nI h (by decide)), jlet_e, nI_clamp (by omega)]
  rw [show gi (si Mm 0 19 (nI f)) 14 f = gi Mm 14 f from by rw [gi_si, if_neg (by omega)]]
theorem rl_find (hQ : jStay Q) (h : Rl Q Mx Mm) {f : Nat} (hf : f < 6) : Rl Q (si (si Mx 0 9 (nI f)) 68 f (gi Mx 68 f + 1)) (si (si Mm 0 19 (nI f)) 14 f (gi Mm 14 f + 1)) := by
  obtain ⟨⟨h1, h2, h3, h4, h5⟩, hr, ht, hq⟩ := h
  have sx : ∀ j, j ≠ 0 → stX j Mx (si (si Mx 0 9 (nI f)) 68 f (gi Mx 68 f + 1)) := fun j hj => stX_tr (stX_si (fun q => hj (q.symm.trans rfl))) (stX_si (fun q => hj (q.symm.trans rfl)))
  have sm : ∀ j, j ≠ 0 → stM j Mm (si (si Mm 0 19 (nI f)) 14 f (gi Mm 14 f + 1)) := fun j hj => stM_tr (stM_si (fun q => hj (q.symm.trans rfl))) (stM_si (fun q => hj (q.symm.trans rfl)))
  refine ⟨⟨?_, ?_, h3, h4, fun g hg => ?_⟩, rr_stay (sx 1 (by decide)) (sm 1 (by decide)) hr, rt_stay (sx 2 (by decide)) (sm 2 (by decide)) ht, hQ _ _ _ _ (fun j hj => ⟨sx j (by omega), sm j (by omega)⟩) hq⟩
  · simp [gi_si]
  · simp [gi_si, h2]
  · by_cases e : g = f
    · subst e; simp [gi_si, h5 g hg]
    · simp [gi_si, e, h5 g hg]
theorem x_tell {v : Int32} : f_X5_tell v Mx = some (1, si Mx 0 10 v) := rfl
theorem m_answer {a v : Int32} : f_X6_answer a v Mm = some (a, si Mm 0 16 v) := rfl
theorem rl_tell (hQ : jStay Q) (h : Rl Q Mx Mm) (v : Int32) : Rl Q (si Mx 0 10 v) (si Mm 0 16 v) := by
  obtain ⟨⟨h1, h2, h3, h4, h5⟩, hr, ht, hq⟩ := h
  have sx : ∀ j, j ≠ 0 → stX j Mx (si Mx 0 10 v) := fun j hj => stX_si (fun q => hj (q.symm.trans rfl))
  have sm : ∀ j, j ≠ 0 → stM j Mm (si Mm 0 16 v) := fun j hj => stM_si (fun q => hj (q.symm.trans rfl))
  refine ⟨⟨?_, ?_, h3, h4, fun g hg => ?_⟩, rr_stay (sx 1 (by decide)) (sm 1 (by decide)) hr, rt_stay (sx 2 (by decide)) (sm 2 (by decide)) ht, hQ _ _ _ _ (fun j hj => ⟨sx j (by omega), sm j (by omega)⟩) hq⟩
  · simp [gi_si, h1]
  · simp [gi_si]
  · simp [gi_si, h5 g hg]
/-! the calls that only tell -/
theorem s_asked : kS_asked (Rl Q) := fun _ _ h => ⟨_, rfl, congrArg some h.1.2.1.symm⟩
theorem s_upper : kS_upper (Rl Q) := fun _ _ h => ⟨_, rfl, congrArg some h.1.2.2.1.symm⟩
theorem s_lower : kS_lower (Rl Q) := fun _ _ h => ⟨_, rfl, congrArg some h.1.2.2.2.1.symm⟩
theorem s_finding : kS_finding (Rl Q) := fun _ _ h => ⟨_, rfl, congrArg some h.1.1.symm⟩
theorem s_findings : kS_findings (Rl Q) := by
  intro a1 Mx Mm h
  unfold f_X5_findings f_X6_findings
  by_cases h1 : a1 < 1
  · rw [if_pos h1, m_in_f (Or.inl (by rw [show (1 : Int64) = (1 : Int32).toInt64 from rfl, jw_lt]; exact h1))]
    exact ⟨-1, rfl, rfl⟩
  · by_cases h5 : a1 ≤ 5
    · obtain ⟨j, hj, rfl⟩ := nI_of2 (x := a1) (M := 5) (n := 5) rfl (fun q => h1 (by rw [Int32.lt_iff_toInt_lt] at q ⊢; have e1 : (0 : Int32).toInt = 0 := rfl; have e2 : (1 : Int32).toInt = 1 := rfl; omega)) h5
      rw [if_neg h1, if_pos h5, jg_t (jin_nI (by omega) (by decide)), m_in_t (by rw [show (1 : Int64) = (1 : Int32).toInt64 from rfl, jw_lt]; exact h1) (by rw [show (5 : Int64) = (5 : Int32).toInt64 from rfl, jw_lt]; exact Int32.not_lt.mpr h5)]
      rw [jb1_e, if_neg (by decide), jg_t (jin_nI (by omega) (by decide)), nI_clamp (by omega)]
      exact ⟨_, rfl, congrArg some (h.1.2.2.2.2 j (by omega)).symm⟩
    · rw [if_neg h1, if_neg h5, m_in_f (Or.inr (by rw [show (5 : Int64) = (5 : Int32).toInt64 from rfl, jw_lt]; exact Int32.not_le.mp h5))]
      exact ⟨-1, rfl, rfl⟩
end JR
