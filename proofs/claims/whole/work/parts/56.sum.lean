/-! digest -/
def dg (f : Nat → Int64) (h : Int64) : Nat → Int64
  | 0 => h
  | k + 1 => 31 * dg f h k + f k
section JH
variable {q c : Nat → Nat → Nat} {M Mx Mm : jM}
theorem gi_sl' (o k a b : Nat) (v : Int64) : gi (sl M a b v) o k = gi M o k := rfl
theorem sl_sl (v w : Int64) : sl (sl M 0 32 v) 0 32 w = sl M 0 32 w := by
  unfold sl
  refine Prod.ext rfl (funext fun a => funext fun k => ?_)
  show (if a = 0 ∧ k = 32 then w else if a = 0 ∧ k = 32 then v else M.2 a k) = if a = 0 ∧ k = 32 then w else M.2 a k
  by_cases e : a = 0 ∧ k = 32
  · rw [if_pos e, if_pos e]
  · rw [if_neg e, if_neg e, if_neg e]
theorem m_mix (h v : Int64) : f_X6_mix v (sl M 0 32 h) = some (sl M 0 32 (31 * h + v)) := by
  unfold f_X6_mix
  rw [jlet_e, gl_sl, if_pos ⟨rfl, rfl⟩, sl_sl]
theorem rl_sum (R : Rl Q1 Mx Mm) (h : Int64) : Rl Q1 Mx (sl Mm 0 32 h) := by
  have sm : ∀ j, j ≠ 6 → stM j Mm (sl Mm 0 32 h) := fun j hj => stM_sl (fun w => hj (w.symm.trans rfl))
  exact ⟨ra_stay stX_rf (sm 0 (by decide)) R.1, rr_stay stX_rf (sm 1 (by decide)) R.2.1, rt_stay stX_rf (sm 2 (by decide)) R.2.2.1, Q1_stay _ _ _ _ (fun j hj => ⟨stX_rf, sm j (by omega)⟩) R.2.2.2⟩
def cv (Mx : jM) (w : Nat) : Int32 := (f_X5_countOf (nI w) Mx).getD 0
theorem x_cv (R : Rl Q1 Mx Mm) {w : Nat} (hw : w < 9) : f_X5_countOf (nI w) Mx = some (cv Mx w) := by
  obtain ⟨r, e, _⟩ := x_count_ok R hw
  unfold cv
  rw [e]; rfl
theorem m_cv (R : Rl Q1 Mx Mm) {w : Nat} (hw : w < 9) : f_X6_count (nI w) Mm = some (cv Mx w) := by
  obtain ⟨r, e, e2⟩ := x_count_ok R hw
  unfold cv
  rw [e, e2]; rfl
theorem x_d1 (R : Rl Q1 Mx Mm) (h : Int64) : f_X5_digest_L6 jfu h 0 Mx = some (dg (fun w => (cv Mx w).toInt64) h 9, nI 9) := by
  refine jloop0 (L := fun m (s : Int64 × Int32) => f_X5_digest_L6 m s.1 s.2 Mx) (S := fun k => (dg (fun w => (cv Mx w).toInt64) h k, nI k)) (n := 9) (by decide) ?_ (fun m => rfl)
  intro m k hk
  show f_X5_digest_L6_b (f_X5_digest_L6 m) _ (nI k) Mx = f_X5_digest_L6 m _ (nI (k + 1)) Mx
  unfold f_X5_digest_L6_b
  rw [if_neg (show ¬ (9 : Int32) ≤ nI k from nI_ge (b := 9) hk (by decide)), x_cv R hk, jb1_e, jlet_e, jlet_e, nI_1]; rfl
theorem m_d1 (R : Rl Q1 Mx Mm) (h : Int64) : f_X6_digest_L9 jfu 0 (sl Mm 0 32 h) = some (nI 9, sl Mm 0 32 (dg (fun w => (cv Mx w).toInt64) h 9)) := by
  refine jloop0 (L := fun m (s : Int32 × jM) => f_X6_digest_L9 m s.1 s.2) (S := fun k => (nI k, sl Mm 0 32 (dg (fun w => (cv Mx w).toInt64) h k))) (n := 9) (by decide) ?_ (fun m => rfl)
  intro m k hk
  show f_X6_digest_L9_b (f_X6_digest_L9 m) (nI k) (sl Mm 0 32 _) = f_X6_digest_L9 m (nI (k + 1)) (sl Mm 0 32 _)
  unfold f_X6_digest_L9_b
  rw [if_neg (show ¬ (9 : Int32) ≤ nI k from nI_ge (b := 9) hk (by decide)), m_cv (rl_sum R _) hk, jb1_e, m_mix, jb1_e, jlet_e, nI_1]; rfl
theorem x_d2 (H : CX q c M) (h : Int64) : f_X5_digest_L48 jfu h 0 M = some (dg (fun w => (nI (c 0 w)).toInt64) h 3, nI 3) := by
  refine jloop0 (L := fun m (s : Int64 × Int32) => f_X5_digest_L48 m s.1 s.2 M) (S := fun k => (dg (fun w => (nI (c 0 w)).toInt64) h k, nI k)) (n := 3) (by decide) ?_ (fun m => rfl)
  intro m k hk
  show f_X5_digest_L48_b (f_X5_digest_L48 m) _ (nI k) M = f_X5_digest_L48 m _ (nI (k + 1)) M
  unfold f_X5_digest_L48_b
  rw [if_neg (show ¬ (3 : Int32) ≤ nI k from nI_ge (b := 3) hk (by decide)), jg_t (jin_nI hk (by decide)), nI_clamp (show k < 2 ^ 31 by omega), show gi M 40 k = nI (c 0 k) from H.2.2.2.2.2.1 k hk, jlet_e, jlet_e, nI_1]; rfl
theorem m_d2 (H : CM q c M) (h : Int64) : f_X6_digest_L44 jfu 0 (sl M 0 32 h) = some (nI 3, sl M 0 32 (dg (fun w => (nI (c 0 w)).toInt64) h 3)) := by
  refine jloop0 (L := fun m (s : Int32 × jM) => f_X6_digest_L44 m s.1 s.2) (S := fun k => (nI k, sl M 0 32 (dg (fun w => (nI (c 0 w)).toInt64) h k))) (n := 3) (by decide) ?_ (fun m => rfl)
  intro m k hk
  show f_X6_digest_L44_b (f_X6_digest_L44 m) (nI k) (sl M 0 32 _) = f_X6_digest_L44 m (nI (k + 1)) (sl M 0 32 _)
  unfold f_X6_digest_L44_b
  rw [if_neg (show ¬ (3 : Int32) ≤ nI k from nI_ge (b := 3) hk (by decide)), jg_t (jin_nI hk (by decide)), nI_clamp (show k < 2 ^ 31 by omega), gi_sl', show gi M 11 k = nI (c 0 k) from H.2.2.2.2.2.2 k hk, m_mix, jb1_e, jlet_e, nI_1]; rfl
/-- facts, five each, one behind the other -/
theorem x_d3i (H : CX q c M) {i : Nat} (hi : i < q 0 0) (h : Int64) : f_X5_digest_L92 jfu (dg (fun k => (dfc q c (k / 5) (k % 5)).toInt64) h (5 * i)) (nI i) 0 M = some (dg (fun k => (dfc q c (k / 5) (k % 5)).toInt64) h (5 * (i + 1)), nI 5) := by
  refine jloop0 (L := fun m (s : Int64 × Int32) => f_X5_digest_L92 m s.1 (nI i) s.2 M) (S := fun w => (dg (fun k => (dfc q c (k / 5) (k % 5)).toInt64) h (5 * i + w), nI w)) (n := 5) (by decide) ?_ (fun m => rfl)
  intro m w hw
  show f_X5_digest_L92_b (f_X5_digest_L92 m) _ (nI i) (nI w) M = f_X5_digest_L92 m _ (nI i) (nI (w + 1)) M
  unfold f_X5_digest_L92_b
  have e : dg (fun k => (dfc q c (k / 5) (k % 5)).toInt64) h (5 * i + (w + 1)) = 31 * dg (fun k => (dfc q c (k / 5) (k % 5)).toInt64) h (5 * i + w) + (dfc q c i w).toInt64 := by
    show 31 * _ + (dfc q c ((5 * i + w) / 5) ((5 * i + w) % 5)).toInt64 = _
    rw [show (5 * i + w) / 5 = i by omega, show (5 * i + w) % 5 = w by omega]; rfl
  rw [if_neg (show ¬ (5 : Int32) ≤ nI w from nI_ge (b := 5) hw (by decide)), x_dfc H hi hw, jb1_e, jlet_e, jlet_e, nI_1, e]
theorem x_d3 (H : CX q c M) (h : Int64) : f_X5_digest_L78 jfu h 0 M = some (dg (fun k => (dfc q c (k / 5) (k % 5)).toInt64) h (5 * q 0 0), nI (q 0 0)) := by
  have h6 := H.1.1
  refine jloop0 (L := fun m (s : Int64 × Int32) => f_X5_digest_L78 m s.1 s.2 M) (S := fun i => (dg (fun k => (dfc q c (k / 5) (k % 5)).toInt64) h (5 * i), nI i)) (n := q 0 0) (by unfold jfu; omega) ?_ ?_
  · intro m k hk
    show f_X5_digest_L78_b (f_X5_digest_L78 m) _ (nI k) M = f_X5_digest_L78 m _ (nI (k + 1)) M
    unfold f_X5_digest_L78_b
    rw [H.2.1.1, if_neg (nI_ge hk (by omega)), x_d3i H hk, jb2_e, jlet_e, nI_1]
  · intro m
    show f_X5_digest_L78_b (f_X5_digest_L78 m) _ (nI (q 0 0)) M = _
    unfold f_X5_digest_L78_b
    rw [H.2.1.1, if_pos (nI_le (Nat.le_refl _) (by omega))]
theorem x_d4i (H : CX q c M) {i : Nat} (hi : i < q 0 1) (h : Int64) : f_X5_digest_L141 jfu (dg (fun k => (hfc q c (k / 5) (k % 5)).toInt64) h (5 * i)) (nI i) 0 M = some (dg (fun k => (hfc q c (k / 5) (k % 5)).toInt64) h (5 * (i + 1)), nI 5) := by
  refine jloop0 (L := fun m (s : Int64 × Int32) => f_X5_digest_L141 m s.1 (nI i) s.2 M) (S := fun w => (dg (fun k => (hfc q c (k / 5) (k % 5)).toInt64) h (5 * i + w), nI w)) (n := 5) (by decide) ?_ (fun m => rfl)
  intro m w hw
  show f_X5_digest_L141_b (f_X5_digest_L141 m) _ (nI i) (nI w) M = f_X5_digest_L141 m _ (nI i) (nI (w + 1)) M
  unfold f_X5_digest_L141_b
  have e : dg (fun k => (hfc q c (k / 5) (k % 5)).toInt64) h (5 * i + (w + 1)) = 31 * dg (fun k => (hfc q c (k / 5) (k % 5)).toInt64) h (5 * i + w) + (hfc q c i w).toInt64 := by
    show 31 * _ + (hfc q c ((5 * i + w) / 5) ((5 * i + w) % 5)).toInt64 = _
    rw [show (5 * i + w) / 5 = i by omega, show (5 * i + w) % 5 = w by omega]; rfl
  rw [if_neg (show ¬ (5 : Int32) ≤ nI w from nI_ge (b := 5) hw (by decide)), x_hfc H hi hw, jb1_e, jlet_e, jlet_e, nI_1, e]
theorem x_d4 (H : CX q c M) (h : Int64) : f_X5_digest_L127 jfu h 0 M = some (dg (fun k => (hfc q c (k / 5) (k % 5)).toInt64) h (5 * q 0 1), nI (q 0 1)) := by
  have h6 := H.1.2.1
  refine jloop0 (L := fun m (s : Int64 × Int32) => f_X5_digest_L127 m s.1 s.2 M) (S := fun i => (dg (fun k => (hfc q c (k / 5) (k % 5)).toInt64) h (5 * i), nI i)) (n := q 0 1) (by unfold jfu; omega) ?_ ?_
  · intro m k hk
    show f_X5_digest_L127_b (f_X5_digest_L127 m) _ (nI k) M = f_X5_digest_L127 m _ (nI (k + 1)) M
    unfold f_X5_digest_L127_b
    rw [H.2.1.2.1, if_neg (nI_ge hk (by omega)), x_d4i H hk, jb2_e, jlet_e, nI_1]
  · intro m
    show f_X5_digest_L127_b (f_X5_digest_L127 m) _ (nI (q 0 1)) M = _
    unfold f_X5_digest_L127_b
    rw [H.2.1.2.1, if_pos (nI_le (Nat.le_refl _) (by omega))]
theorem cm_sum (H : CM q c M) (h : Int64) : CM q c (sl M 0 32 h) := ⟨H.1, hM_st (stM_sl (by decide)) H.2.1, H.2.2.1, cM_st (stM_sl (by decide)) H.2.2.2⟩
theorem j5mul (n : Nat) : (5 : Int32) * nI n = nI (5 * n) := pk_mul 5 n
theorem m_d3 (H : CM q c M) (h : Int64) : f_X6_digest_L68 jfu 0 (sl M 0 32 h) = some (nI (5 * q 0 0), sl M 0 32 (dg (fun k => (dfc q c (k / 5) (k % 5)).toInt64) h (5 * q 0 0))) := by
  have h6 := H.1.1
  refine jloop0 (L := fun m (s : Int32 × jM) => f_X6_digest_L68 m s.1 s.2) (S := fun k => (nI k, sl M 0 32 (dg (fun k => (dfc q c (k / 5) (k % 5)).toInt64) h k))) (n := 5 * q 0 0) (by unfold jfu; omega) ?_ ?_
  · intro m k hk
    show f_X6_digest_L68_b (f_X6_digest_L68 m) (nI k) (sl M 0 32 _) = f_X6_digest_L68 m (nI (k + 1)) (sl M 0 32 _)
    unfold f_X6_digest_L68_b
    rw [gi_sl', H.2.1.1, j5mul, if_neg (nI_ge hk (by omega)), show (5 : Int32) = nI 5 from rfl, pk_rem (show k < 2 ^ 31 by omega) (by decide) (by decide), pk_div (show k < 2 ^ 31 by omega) (by decide) (by decide), m_dfc (cm_sum H _) (show k / 5 < q 0 0 by omega) (by omega), jb1_e, m_mix, jb1_e, jlet_e, nI_1]; rfl
  · intro m
    show f_X6_digest_L68_b (f_X6_digest_L68 m) (nI (5 * q 0 0)) (sl M 0 32 _) = _
    unfold f_X6_digest_L68_b
    rw [gi_sl', H.2.1.1, j5mul, if_pos (nI_le (Nat.le_refl _) (by omega))]
theorem m_d4 (H : CM q c M) (h : Int64) : f_X6_digest_L101 jfu 0 (sl M 0 32 h) = some (nI (5 * q 0 1), sl M 0 32 (dg (fun k => (hfc q c (k / 5) (k % 5)).toInt64) h (5 * q 0 1))) := by
  have h6 := H.1.2.1
  refine jloop0 (L := fun m (s : Int32 × jM) => f_X6_digest_L101 m s.1 s.2) (S := fun k => (nI k, sl M 0 32 (dg (fun k => (hfc q c (k / 5) (k % 5)).toInt64) h k))) (n := 5 * q 0 1) (by unfold jfu; omega) ?_ ?_
  · intro m k hk
    show f_X6_digest_L101_b (f_X6_digest_L101 m) (nI k) (sl M 0 32 _) = f_X6_digest_L101 m (nI (k + 1)) (sl M 0 32 _)
    unfold f_X6_digest_L101_b
    rw [gi_sl', H.2.1.2.1, j5mul, if_neg (nI_ge hk (by omega)), show (5 : Int32) = nI 5 from rfl, pk_rem (show k < 2 ^ 31 by omega) (by decide) (by decide), pk_div (show k < 2 ^ 31 by omega) (by decide) (by decide), m_hfc (cm_sum H _) (show k / 5 < q 0 1 by omega) (by omega), jb1_e, m_mix, jb1_e, jlet_e, nI_1]; rfl
  · intro m
    show f_X6_digest_L101_b (f_X6_digest_L101 m) (nI (5 * q 0 1)) (sl M 0 32 _) = _
    unfold f_X6_digest_L101_b
    rw [gi_sl', H.2.1.2.1, j5mul, if_pos (nI_le (Nat.le_refl _) (by omega))]
def kst (Mx : jM) (k : Nat) : Int32 := if gi Mx 64 k = 0 then -1 else gi Mx (46 + 6 * k) 6
theorem x_d5 (M : jM) (h : Int64) : f_X5_digest_L176 jfu h 0 M = some (dg (fun k => (kst M k).toInt64) h 3, nI 3) := by
  refine jloop0 (L := fun m (s : Int64 × Int32) => f_X5_digest_L176 m s.1 s.2 M) (S := fun k => (dg (fun k => (kst M k).toInt64) h k, nI k)) (n := 3) (by decide) ?_ (fun m => rfl)
  intro m k hk
  show f_X5_digest_L176_b (f_X5_digest_L176 m) _ (nI k) M = f_X5_digest_L176 m (31 * _ + (kst M k).toInt64) (nI (k + 1)) M
  unfold f_X5_digest_L176_b
  rw [if_neg (show ¬ (3 : Int32) ≤ nI k from nI_ge (b := 3) hk (by decide)), jg_t (jin_nI hk (by decide)), jg_t (jin_nI hk (by decide)), nI_clamp (show k < 2 ^ 31 by omega)]
  have e : (if gi M 64 k = 0 then some (-1 : Int32) else (if nI k = 0 then some (gi M 46 6) else if nI k = 1 then some (gi M 52 6) else some (gi M 58 6))) = some (kst M k) := by
    unfold kst
    by_cases w : gi M 64 k = 0
    · rw [if_pos w, if_pos w]
    · rw [if_neg w, if_neg w]
      rcases (show k = 0 ∨ k = 1 ∨ k = 2 by omega) with rfl | rfl | rfl <;> rfl
  rw [e, jb1_e, jlet_e, jlet_e, nI_1]
theorem e496 (k j : Nat) : (496 : Int32) * nI k + nI j = nI (496 * k + j) := by rw [show (496 : Int32) = nI 496 from rfl, pk_mul, nI_add]
theorem m_d5 (hk : ∀ k, k < 3 → kp q Mx Mm k) (h : Int64) : f_X6_digest_L134 jfu 0 (sl Mm 0 32 h) = some (nI 3, sl Mm 0 32 (dg (fun k => (kst Mx k).toInt64) h 3)) := by
  refine jloop0 (L := fun m (s : Int32 × jM) => f_X6_digest_L134 m s.1 s.2) (S := fun k => (nI k, sl Mm 0 32 (dg (fun k => (kst Mx k).toInt64) h k))) (n := 3) (by decide) ?_ (fun m => rfl)
  intro m k h3
  show f_X6_digest_L134_b (f_X6_digest_L134 m) (nI k) (sl Mm 0 32 _) = f_X6_digest_L134 m (nI (k + 1)) (sl Mm 0 32 (31 * _ + (kst Mx k).toInt64))
  unfold f_X6_digest_L134_b
  rw [if_neg (show ¬ (3 : Int32) ≤ nI k from nI_ge (b := 3) h3 (by decide)), jg_t (jin_nI h3 (by decide)), show (495 : Int32) = nI 495 from rfl, e496, jg_t (jin_nI (show 496 * k + 495 < 1488 by omega) (by decide)), nI_clamp (show k < 2 ^ 31 by omega), nI_clamp (show 496 * k + 495 < 2 ^ 31 by omega), gi_sl', gi_sl']
  have e : (if gi Mm 18 k = 0 then some (-1 : Int64) else some (gi Mm 19 (496 * k + 495)).toInt64) = some (kst Mx k).toInt64 := by
    unfold kst
    rcases hk k h3 with ⟨e1, e2⟩ | ⟨e1, e2, c', e3, e4, e5⟩
    · rw [e1, e2]; rfl
    · rw [e1, e2, if_neg j10, if_neg j10, e5.1, e4.1]
  rw [e, jb1_e, m_mix, jb1_e, jlet_e, nI_1]
/-- rows and texts -/
def nr (x : Int32) : Nat := x.toNatClampNeg
theorem nr_ok {x : Int32} {m : Nat} (hm : m < 2 ^ 31) (h : x = -1 ∨ ∃ n, n ≤ m ∧ x = nI n) : nr x ≤ m ∧ x ≤ nI (nr x) ∧ ∀ i, i < nr x → ¬ x ≤ nI i := by
  unfold nr
  rcases h with rfl | ⟨n, hn, rfl⟩
  · exact ⟨Nat.zero_le _, by decide, fun i hi => absurd hi (Nat.not_lt_zero _)⟩
  · rw [nI_clamp (by omega)]
    exact ⟨hn, nI_le (Nat.le_refl _) (by omega), fun i hi => nI_ge hi (by omega)⟩
def rwd (s : Nat → Int32) (f : Nat → Nat → Int32) (h : Int64) : Nat → Int64
  | 0 => h
  | r + 1 => dg (fun i => (f r i).toInt64) (31 * rwd s f h r + (s r).toInt64) (nr (s r))
theorem x_d6i (hr : rr Mx Mm) {r : Nat} (h6 : r < 6) (h : Int64) : f_X4_digestOnFroma_L33 jfu h (nI r) 0 Mx = some (dg (fun i => (gi Mx (4 + r) i).toInt64) h (nr (gi Mx 2 r)), nI (nr (gi Mx 2 r))) := by
  obtain ⟨a1, a2, a3⟩ := nr_ok (m := 40) (by decide) (hr r h6).2.1
  refine jloop0 (L := fun m (s : Int64 × Int32) => f_X4_digestOnFroma_L33 m s.1 (nI r) s.2 Mx) (S := fun k => (dg (fun i => (gi Mx (4 + r) i).toInt64) h k, nI k)) (n := nr (gi Mx 2 r)) (by unfold jfu; omega) ?_ ?_
  · intro m k hk
    show f_X4_digestOnFroma_L33_b (f_X4_digestOnFroma_L33 m) _ (nI r) (nI k) Mx = f_X4_digestOnFroma_L33 m _ (nI r) (nI (k + 1)) Mx
    unfold f_X4_digestOnFroma_L33_b
    rw [jg_t (jin_nI h6 (by decide)), nI_clamp (show r < 2 ^ 31 by omega), if_neg (a3 k hk), jg_t (jin_nI h6 (by decide)), jg_t (jin_nI (show k < 40 by omega) (by decide)), nI_clamp (show k < 2 ^ 31 by omega), jlet_e, jlet_e, nI_1]; rfl
  · intro m
    show f_X4_digestOnFroma_L33_b (f_X4_digestOnFroma_L33 m) _ (nI r) (nI (nr (gi Mx 2 r))) Mx = _
    unfold f_X4_digestOnFroma_L33_b
    rw [jg_t (jin_nI h6 (by decide)), nI_clamp (show r < 2 ^ 31 by omega), if_pos a2]
theorem x_d6 (hr : rr Mx Mm) (h : Int64) : f_X4_digestOnFroma h Mx = some (rwd (gi Mx 2) (fun r => gi Mx (4 + r)) h 6) := by
  have hl : f_X4_digestOnFroma_L5 jfu h 0 Mx = some (rwd (gi Mx 2) (fun r => gi Mx (4 + r)) h 6, nI 6) := by
    refine jloop0 (L := fun m (s : Int64 × Int32) => f_X4_digestOnFroma_L5 m s.1 s.2 Mx) (S := fun k => (rwd (gi Mx 2) (fun r => gi Mx (4 + r)) h k, nI k)) (n := 6) (by decide) ?_ (fun m => rfl)
    intro m k hk
    show f_X4_digestOnFroma_L5_b (f_X4_digestOnFroma_L5 m) _ (nI k) Mx = f_X4_digestOnFroma_L5 m _ (nI (k + 1)) Mx
    unfold f_X4_digestOnFroma_L5_b
    rw [if_neg (show ¬ (6 : Int32) ≤ nI k from nI_ge (b := 6) hk (by decide)), jg_t (jin_nI hk (by decide)), nI_clamp (show k < 2 ^ 31 by omega), jlet_e, x_d6i hr hk, jb2_e, jlet_e, nI_1]; rfl
  unfold f_X4_digestOnFroma
  rw [hl]; rfl
theorem m_d6i (hr : rr Mx Mm) {r : Nat} (h6 : r < 6) (h : Int64) : f_X6_digest_L200 jfu (nI r) 0 (sl Mm 0 32 h) = some (nI (nr (gi Mx 2 r)), sl Mm 0 32 (dg (fun i => (gi Mx (4 + r) i).toInt64) h (nr (gi Mx 2 r)))) := by
  obtain ⟨b1, b2, b3⟩ := hr r h6
  obtain ⟨a1, a2, a3⟩ := nr_ok (m := 40) (by decide) b2
  refine jloop0 (L := fun m (s : Int32 × jM) => f_X6_digest_L200 m (nI r) s.1 s.2) (S := fun k => (nI k, sl Mm 0 32 (dg (fun i => (gi Mx (4 + r) i).toInt64) h k))) (n := nr (gi Mx 2 r)) (by unfold jfu; omega) ?_ ?_
  · intro m k hk
    show f_X6_digest_L200_b (f_X6_digest_L200 m) (nI r) (nI k) (sl Mm 0 32 _) = f_X6_digest_L200 m (nI r) (nI (k + 1)) (sl Mm 0 32 _)
    unfold f_X6_digest_L200_b
    rw [jg_t (jin_nI h6 (by decide)), nI_clamp (show r < 2 ^ 31 by omega), gi_sl', ← b1, if_neg (a3 k hk), e40, jg_t (jin_nI (show 40 * r + k < 240 by omega) (by decide)), nI_clamp (show 40 * r + k < 2 ^ 31 by omega), gi_sl', ← b3 k (by omega), m_mix, jb1_e, jlet_e, nI_1]; rfl
  · intro m
    show f_X6_digest_L200_b (f_X6_digest_L200 m) (nI r) (nI (nr (gi Mx 2 r))) (sl Mm 0 32 _) = _
    unfold f_X6_digest_L200_b
    rw [jg_t (jin_nI h6 (by decide)), nI_clamp (show r < 2 ^ 31 by omega), gi_sl', ← b1, if_pos a2]
theorem m_d6 (hr : rr Mx Mm) (h : Int64) : f_X6_digest_L181 jfu 0 (sl Mm 0 32 h) = some (nI 6, sl Mm 0 32 (rwd (gi Mx 2) (fun r => gi Mx (4 + r)) h 6)) := by
  refine jloop0 (L := fun m (s : Int32 × jM) => f_X6_digest_L181 m s.1 s.2) (S := fun k => (nI k, sl Mm 0 32 (rwd (gi Mx 2) (fun r => gi Mx (4 + r)) h k))) (n := 6) (by decide) ?_ (fun m => rfl)
  intro m k hk
  show f_X6_digest_L181_b (f_X6_digest_L181 m) (nI k) (sl Mm 0 32 _) = f_X6_digest_L181 m (nI (k + 1)) (sl Mm 0 32 _)
  unfold f_X6_digest_L181_b
  rw [if_neg (show ¬ (6 : Int32) ≤ nI k from nI_ge (b := 6) hk (by decide)), jg_t (jin_nI hk (by decide)), nI_clamp (show k < 2 ^ 31 by omega), gi_sl', ← (hr k hk).1, m_mix, jb1_e, m_d6i hr hk, jb2_e, jlet_e, nI_1]; rfl
theorem x_d7i (hr : rt Mx Mm) {r : Nat} (h6 : r < 4) (h : Int64) : f_X4_digestOnFromb_L33 jfu h (nI r) 0 Mx = some (dg (fun i => (gi Mx (13 + r) i).toInt64) h (nr (gi Mx 11 r)), nI (nr (gi Mx 11 r))) := by
  obtain ⟨a1, a2, a3⟩ := nr_ok (m := 80) (by decide) (hr r h6).2.1
  refine jloop0 (L := fun m (s : Int64 × Int32) => f_X4_digestOnFromb_L33 m s.1 (nI r) s.2 Mx) (S := fun k => (dg (fun i => (gi Mx (13 + r) i).toInt64) h k, nI k)) (n := nr (gi Mx 11 r)) (by unfold jfu; omega) ?_ ?_
  · intro m k hk
    show f_X4_digestOnFromb_L33_b (f_X4_digestOnFromb_L33 m) _ (nI r) (nI k) Mx = f_X4_digestOnFromb_L33 m _ (nI r) (nI (k + 1)) Mx
    unfold f_X4_digestOnFromb_L33_b
    rw [jg_t (jin_nI h6 (by decide)), nI_clamp (show r < 2 ^ 31 by omega), if_neg (a3 k hk), jg_t (jin_nI h6 (by decide)), jg_t (jin_nI (show k < 80 by omega) (by decide)), nI_clamp (show k < 2 ^ 31 by omega), jlet_e, jlet_e, nI_1]; rfl
  · intro m
    show f_X4_digestOnFromb_L33_b (f_X4_digestOnFromb_L33 m) _ (nI r) (nI (nr (gi Mx 11 r))) Mx = _
    unfold f_X4_digestOnFromb_L33_b
    rw [jg_t (jin_nI h6 (by decide)), nI_clamp (show r < 2 ^ 31 by omega), if_pos a2]
theorem x_d7 (hr : rt Mx Mm) (h : Int64) : f_X4_digestOnFromb h Mx = some (rwd (gi Mx 11) (fun r => gi Mx (13 + r)) h 4) := by
  have hl : f_X4_digestOnFromb_L5 jfu h 0 Mx = some (rwd (gi Mx 11) (fun r => gi Mx (13 + r)) h 4, nI 4) := by
    refine jloop0 (L := fun m (s : Int64 × Int32) => f_X4_digestOnFromb_L5 m s.1 s.2 Mx) (S := fun k => (rwd (gi Mx 11) (fun r => gi Mx (13 + r)) h k, nI k)) (n := 4) (by decide) ?_ (fun m => rfl)
    intro m k hk
    show f_X4_digestOnFromb_L5_b (f_X4_digestOnFromb_L5 m) _ (nI k) Mx = f_X4_digestOnFromb_L5 m _ (nI (k + 1)) Mx
    unfold f_X4_digestOnFromb_L5_b
    rw [if_neg (show ¬ (4 : Int32) ≤ nI k from nI_ge (b := 4) hk (by decide)), jg_t (jin_nI hk (by decide)), nI_clamp (show k < 2 ^ 31 by omega), jlet_e, x_d7i hr hk, jb2_e, jlet_e, nI_1]; rfl
  unfold f_X4_digestOnFromb
  rw [hl]; rfl
theorem m_d7i (hr : rt Mx Mm) {r : Nat} (h6 : r < 4) (h : Int64) : f_X6_digest_L258 jfu (nI r) 0 (sl Mm 0 32 h) = some (nI (nr (gi Mx 11 r)), sl Mm 0 32 (dg (fun i => (gi Mx (13 + r) i).toInt64) h (nr (gi Mx 11 r)))) := by
  obtain ⟨b1, b2, b3⟩ := hr r h6
  obtain ⟨a1, a2, a3⟩ := nr_ok (m := 80) (by decide) b2
  refine jloop0 (L := fun m (s : Int32 × jM) => f_X6_digest_L258 m (nI r) s.1 s.2) (S := fun k => (nI k, sl Mm 0 32 (dg (fun i => (gi Mx (13 + r) i).toInt64) h k))) (n := nr (gi Mx 11 r)) (by unfold jfu; omega) ?_ ?_
  · intro m k hk
    show f_X6_digest_L258_b (f_X6_digest_L258 m) (nI r) (nI k) (sl Mm 0 32 _) = f_X6_digest_L258 m (nI r) (nI (k + 1)) (sl Mm 0 32 _)
    unfold f_X6_digest_L258_b
    rw [jg_t (jin_nI h6 (by decide)), nI_clamp (show r < 2 ^ 31 by omega), gi_sl', ← b1, if_neg (a3 k hk), e80, jg_t (jin_nI (show 80 * r + k < 320 by omega) (by decide)), nI_clamp (show 80 * r + k < 2 ^ 31 by omega), gi_sl', ← b3 k (by omega), m_mix, jb1_e, jlet_e, nI_1]; rfl
  · intro m
    show f_X6_digest_L258_b (f_X6_digest_L258 m) (nI r) (nI (nr (gi Mx 11 r))) (sl Mm 0 32 _) = _
    unfold f_X6_digest_L258_b
    rw [jg_t (jin_nI h6 (by decide)), nI_clamp (show r < 2 ^ 31 by omega), gi_sl', ← b1, if_pos a2]
theorem m_d7 (hr : rt Mx Mm) (h : Int64) : f_X6_digest_L240 jfu 0 (sl Mm 0 32 h) = some (nI 4, sl Mm 0 32 (rwd (gi Mx 11) (fun r => gi Mx (13 + r)) h 4)) := by
  refine jloop0 (L := fun m (s : Int32 × jM) => f_X6_digest_L240 m s.1 s.2) (S := fun k => (nI k, sl Mm 0 32 (rwd (gi Mx 11) (fun r => gi Mx (13 + r)) h k))) (n := 4) (by decide) ?_ (fun m => rfl)
  intro m k hk
  show f_X6_digest_L240_b (f_X6_digest_L240 m) (nI k) (sl Mm 0 32 _) = f_X6_digest_L240 m (nI (k + 1)) (sl Mm 0 32 _)
  unfold f_X6_digest_L240_b
  rw [if_neg (show ¬ (4 : Int32) ≤ nI k from nI_ge (b := 4) hk (by decide)), jg_t (jin_nI hk (by decide)), nI_clamp (show k < 2 ^ 31 by omega), gi_sl', ← (hr k hk).1, m_mix, jb1_e, m_d7i hr hk, jb2_e, jlet_e, nI_1]; rfl
theorem s_digest : kS_digest (Rl Q1) := by
  intro Mx Mm R
  obtain ⟨q, c, H⟩ := R.2.2.2
  unfold f_X5_digest f_X6_digest
  rw [x_d1 R, jb2_e, jlet_e, x7 (H_cx H), x_d2 (H_cx H), jb2_e, x_d3 (H_cx H), jb2_e, x_d4 (H_cx H), jb2_e, x_d5, jb2_e, x_d6 R.2.1, jb1_e, x_d7 R.2.2.1, jb1_e]
  rw [jlet_e, m_d1 R, jb2_e, gi_sl', m12_0 (H_cm H), m_mix, jb1_e, m_d2 (H_cm H), jb2_e, m_d3 (H_cm H), jb2_e, m_d4 (H_cm H), jb2_e, m_d5 H.2.2.2.2.2.2, jb2_e, m_d6 R.2.1, jb2_e, m_d7 R.2.2.1, jb2_e, gl_sl, if_pos ⟨rfl, rfl⟩]
  exact ⟨_, _, rfl, rfl, rl_sum R _⟩
end JH
