/-! what the library's fills do to the memory -/
def jff (M : jM) (o i n : Nat) (v : Int32) : jM := (fun a k => if a = o ∧ i ≤ k ∧ k < n then v else M.1 a k, M.2)
theorem gi_jff (M : jM) (o i n : Nat) (v : Int32) (a k : Nat) : gi (jff M o i n v) a k = if a = o ∧ i ≤ k ∧ k < n then v else gi M a k := rfl
theorem gl_jff (M : jM) (o i n : Nat) (v : Int32) (a k : Nat) : gl (jff M o i n v) a k = gl M a k := rfl
theorem jff_step (M : jM) (o i n : Nat) (v : Int32) (h : i < n) : jff (si M o i v) o (i + 1) n v = jff M o i n v := by
  unfold jff si
  refine Prod.ext (funext fun a => funext fun k => ?_) rfl
  show (if a = o ∧ i + 1 ≤ k ∧ k < n then v else if a = o ∧ k = i then v else M.1 a k) = if a = o ∧ i ≤ k ∧ k < n then v else M.1 a k
  by_cases ha : a = o
  · by_cases hk : k = i
    · subst hk; simp [ha, h]
    · by_cases h2 : i + 1 ≤ k ∧ k < n
      · rw [if_pos ⟨ha, h2⟩, if_pos ⟨ha, by omega, h2.2⟩]
      · rw [if_neg (fun q => h2 q.2), if_neg (fun q => hk q.2), if_neg (fun q => h2 ⟨by omega, q.2.2⟩)]
  · simp [ha]
theorem jff_end (M : jM) (o n : Nat) (v : Int32) : jff M o n n v = M := by
  unfold jff
  refine Prod.ext (funext fun a => funext fun k => ?_) rfl
  show (if a = o ∧ n ≤ k ∧ k < n then v else M.1 a k) = M.1 a k
  rw [if_neg (by omega)]
theorem jin_nI {i n : Nat} (h : i < n) (hn : n < 2 ^ 31) : jin (nI i) n = true := by
  unfold jin
  rw [Bool.and_eq_true, decide_eq_true_eq, decide_eq_true_eq, nI_clamp (by omega)]
  exact ⟨nI_pos (by omega), h⟩
theorem fill_loop (o n : Nat) (v : Int32) (hn : n < 2 ^ 31) : ∀ (m i : Nat) (M : jM), i ≤ n → n - i < m → f_J7_fill_53178_L5 o n m v (nI i) (nI n) M = some (nI n, jff M o i n v)
  | 0, i, M, _, h => absurd h (Nat.not_lt_zero _)
  | m + 1, i, M, hi, h => by
    show f_J7_fill_53178_L5_b o n (f_J7_fill_53178_L5 o n m) v (nI i) (nI n) M = _
    unfold f_J7_fill_53178_L5_b
    by_cases hlt : i < n
    · rw [if_neg (nI_ge hlt hn), jin_nI hlt hn]
      show f_J7_fill_53178_L5 o n m v (nI i + 1) (nI n) (si M o (nI i).toNatClampNeg v) = _
      rw [nI_1, nI_clamp (by omega), fill_loop o n v hn m (i + 1) _ hlt (by omega), jff_step M o i n v hlt]
    · have e : i = n := by omega
      subst e
      rw [if_pos (nI_le (Nat.le_refl _) hn), jff_end]
theorem fill_ok {o n : Nat} {v : Int32} {M : jM} (hn : n < 30000) : f_J7_fill_53178 o n v M = some (jff M o 0 n v) := by
  unfold f_J7_fill_53178
  show jb2 (f_J7_fill_53178_L5 o n jfu v 0 (nI n) M) _ = _
  rw [show (0 : Int32) = nI 0 from rfl, fill_loop o n v (by omega) jfu 0 M (Nat.zero_le _) (by unfold jfu; omega)]
  rfl
