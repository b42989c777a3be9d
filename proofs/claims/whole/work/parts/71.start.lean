/-! the two objects at their start; the law's walk -/
theorem i_191 : ∀ (m i : Nat) (M : jM), i ≤ 6 → 6 - i < m → f_X6_init_L191 m (nI i) M = some (nI 6, jff M 1 i 6 (-1))
  | 0, i, M, _, h => absurd h (Nat.not_lt_zero _)
  | m + 1, i, M, hi, h => by
    show f_X6_init_L191_b (f_X6_init_L191 m) (nI i) M = _
    unfold f_X6_init_L191_b
    by_cases hlt : i < 6
    · rw [if_neg (show ¬ (6 : Int32) ≤ nI i from nI_ge (b := 6) hlt (by decide)), jg_t (jin_nI hlt (by decide)), nI_clamp (by omega), jlet_e, jlet_e, nI_1, i_191 m (i + 1) _ hlt (by omega), jff_step M 1 i 6 (-1) hlt]
    · have e : i = 6 := by omega
      rw [e, if_pos (show (6 : Int32) ≤ nI 6 from nI_le (a := 6) (Nat.le_refl _) (by decide)), jff_end]
theorem i_212 : ∀ (m i : Nat) (M : jM), i ≤ 4 → 4 - i < m → f_X6_init_L212 m (nI i) M = some (nI 4, jff M 3 i 4 (-1))
  | 0, i, M, _, h => absurd h (Nat.not_lt_zero _)
  | m + 1, i, M, hi, h => by
    show f_X6_init_L212_b (f_X6_init_L212 m) (nI i) M = _
    unfold f_X6_init_L212_b
    by_cases hlt : i < 4
    · rw [if_neg (show ¬ (4 : Int32) ≤ nI i from nI_ge (b := 4) hlt (by decide)), jg_t (jin_nI hlt (by decide)), nI_clamp (by omega), jlet_e, jlet_e, nI_1, i_212 m (i + 1) _ hlt (by omega), jff_step M 3 i 4 (-1) hlt]
    · have e : i = 4 := by omega
      rw [e, if_pos (show (4 : Int32) ≤ nI 4 from nI_le (a := 4) (Nat.le_refl _) (by decide)), jff_end]
def mM0 : jM := si (si (si (jff (jff mM9 1 0 6 (-1)) 3 0 4 (-1)) 11 0 1) 11 1 2) 11 2 4
theorem hM0 : f_X6_initT mM9 = some mM0 := by
  unfold f_X6_initT
  rw [show (0 : Int32) = nI 0 from rfl, i_191 jfu 0 mM9 (by decide) (by decide), jb2_e, i_212 jfu 0 _ (by decide) (by decide), jb2_e]
  rfl
theorem g9 (a k : Nat) : gi mM9 a k = 0 := rfl
theorem g0M {a k : Nat} (h1 : a ≠ 1) (h3 : a ≠ 3) (h11 : a ≠ 11) : gi mM0 a k = 0 := by
  unfold mM0
  rw [gi_si, if_neg (fun w => h11 w.1), gi_si, if_neg (fun w => h11 w.1), gi_si, if_neg (fun w => h11 w.1), gi_jff, if_neg (fun w => h3 w.1), gi_jff, if_neg (fun w => h1 w.1), g9]
theorem hP0 : Rl Q1 mX0 mM0 := by
  refine P_start rfl rfl rfl rfl (fun _ => rfl) (g0M (by decide) (by decide) (by decide)) rfl rfl (g0M (by decide) (by decide) (by decide)) (fun _ => g0M (by decide) (by decide) (by decide)) (fun r hr => ?_) (fun r hr => ?_) (fun r hr k => ?_) (fun k => g0M (by decide) (by decide) (by decide)) (fun r hr => ?_) (fun r hr => ?_) (fun r hr k => ?_) (fun k => g0M (by decide) (by decide) (by decide)) rfl rfl (g0M (by decide) (by decide) (by decide)) (g0M (by decide) (by decide) (by decide)) (fun _ => rfl) (fun k hk => ?_) (fun k hk => ?_) (g0M (by decide) (by decide) (by decide)) (fun k => g0M (by decide) (by decide) (by decide)) (fun k hk => ?_) (fun _ => rfl) (fun k => g0M (by decide) (by decide) (by decide))
  · show (if r < 6 then (-1 : Int32) else 0) = -1
    rw [if_pos hr]
  · unfold mM0
    rw [gi_si, if_neg (by omega), gi_si, if_neg (by omega), gi_si, if_neg (by omega), gi_jff, if_neg (by omega), gi_jff, if_pos ⟨rfl, by omega, hr⟩]
  · rcases (show r = 0 ∨ r = 1 ∨ r = 2 ∨ r = 3 ∨ r = 4 ∨ r = 5 by omega) with rfl | rfl | rfl | rfl | rfl | rfl <;> rfl
  · show (if r < 4 then (-1 : Int32) else 0) = -1
    rw [if_pos hr]
  · unfold mM0
    rw [gi_si, if_neg (by omega), gi_si, if_neg (by omega), gi_si, if_neg (by omega), gi_jff, if_pos ⟨rfl, by omega, hr⟩]
  · rcases (show r = 0 ∨ r = 1 ∨ r = 2 ∨ r = 3 by omega) with rfl | rfl | rfl | rfl <;> rfl
  · rcases (show k = 0 ∨ k = 1 ∨ k = 2 by omega) with rfl | rfl | rfl <;> rfl
  · show (if k < 7 then (-9 : Int32) else 0) = -9
    rw [if_pos hk]
  · unfold mM0
    rcases (show k = 0 ∨ k = 1 ∨ k = 2 by omega) with rfl | rfl | rfl <;> (simp [gi_si]; try rfl)
/-- from the entry, for every script of at most 3072 ints, the law comes to its end with true -/
theorem whole_start {p : Program} {e : Env} {s : State} {m : MethodId} {below : List Frame} {meth : Method} {c : Code} (l : Launch) {b L : Nat} {xs : Nat → Int32} (hL : L ≤ 3072) (C0 : lw_At p s m meth c b L xs) : W p l e room_1 s m #[Value.ref b] below meth c s.heap [] 0 0 (lw_Z below #[Value.ref b] s) (entryFrame m ([Value.ref b] : List Value).toArray 4) :=
  whole_of (s_row Q1_stay) (s_lay Q1_stay) (s_at Q1_stay) (s_tear Q1_stay) (s_copy Q1_stay) (s_mean Q1_stay) (s_text Q1_stay) (s_put Q1_stay) s_fault s_house s_deed s_hour s_mark s_route s_day s_open s_send s_undo s_shelf s_keep s_on s_can s_why s_opens s_late s_run s_most s_fewest s_order s_shut s_waits s_diary s_forged s_stolen s_odds s_lots s_asked s_upper s_lower s_count s_finding s_findings s_digest hM0 hP0 l hL C0
