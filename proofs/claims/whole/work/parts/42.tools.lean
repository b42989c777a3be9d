/-! tools for the pure part -/
theorem jg_t {β : Type} {b : Bool} {a : Option β} (h : b = true) : jg b a = a := by rw [h]; rfl
theorem jlet_e {α β : Type} (a : α) (f : α → Option β) : jlet a f = f a := rfl
theorem jw_le (a b : Int32) : a.toInt64 ≤ b.toInt64 ↔ a ≤ b := by
  rw [Int64.le_iff_toInt_le, Int32.le_iff_toInt_le, Int32.toInt_toInt64, Int32.toInt_toInt64]
theorem jw_lt (a b : Int32) : a.toInt64 < b.toInt64 ↔ a < b := by
  rw [Int64.lt_iff_toInt_lt, Int32.lt_iff_toInt_lt, Int32.toInt_toInt64, Int32.toInt_toInt64]
theorem jlg_lt (x y : Int64) : lg_cmp x y < 0 ↔ x < y := by
  have h := lg_cmp_ge x y
  rw [Int32.lt_iff_toInt_lt, Int64.lt_iff_toInt_lt]
  rw [Int32.le_iff_toInt_le, Int64.le_iff_toInt_le] at h
  have e : (0 : Int32).toInt = 0 := rfl
  rw [e] at h ⊢
  omega
theorem jlg_gt (x y : Int64) : 0 < lg_cmp x y ↔ y < x := by
  unfold lg_cmp
  by_cases h : y < x
  · rw [if_pos h]
    exact ⟨fun _ => h, fun _ => by decide⟩
  · rw [if_neg h]
    refine ⟨fun q => ?_, fun q => absurd q h⟩
    by_cases e : x = y
    · rw [if_pos e] at q; exact absurd q (by decide)
    · rw [if_neg e] at q; exact absurd q (by decide)
theorem jin_of {x : Int32} {n : Nat} (hn : n < 2 ^ 31) : x < 0 ∨ nI n ≤ x ∨ ∃ j : Nat, j < n ∧ x = nI j := pk_ix x hn
theorem m_in_t {v lo hi : Int64} {M : jM} (h1 : ¬ v < lo) (h2 : ¬ hi < v) : f_X6_in v lo hi M = some 1 := by
  unfold f_X6_in
  rw [if_neg (fun q => h1 ((jlg_lt _ _).mp q)), if_neg (fun q => h2 ((jlg_gt _ _).mp q))]
theorem m_in_f {v lo hi : Int64} {M : jM} (h : v < lo ∨ hi < v) : f_X6_in v lo hi M = some 0 := by
  unfold f_X6_in
  by_cases h1 : v < lo
  · rw [if_pos ((jlg_lt _ _).mpr h1)]
  · rw [if_neg (fun q => h1 ((jlg_lt _ _).mp q)), if_pos ((jlg_gt _ _).mpr (h.resolve_left h1))]
/-- in(x, 0, n - 1) over ints -/
theorem m_in0_t {j n : Nat} {M : jM} {hi : Int64} (hh : hi = (nI n).toInt64) (h : j ≤ n) (hn : n < 2 ^ 31) : f_X6_in (nI j).toInt64 0 hi M = some 1 := by
  subst hh
  refine m_in_t ?_ ?_
  · rw [show (0 : Int64) = (nI 0).toInt64 from rfl, jw_lt]; exact nI_pos (by omega)
  · rw [jw_lt]; exact nI_nlt h hn
theorem m_in0_f {x : Int32} {n : Nat} {M : jM} {hi : Int64} (hh : hi = (nI n).toInt64) (h : x < 0 ∨ nI (n + 1) ≤ x) (hn : n + 1 < 2 ^ 31) : f_X6_in x.toInt64 0 hi M = some 0 := by
  subst hh
  refine m_in_f ?_
  rcases h with h | h
  · left; rw [show (0 : Int64) = (0 : Int32).toInt64 from rfl, jw_lt]; exact h
  · right
    rw [jw_lt, Int32.lt_iff_toInt_lt, nI_toInt (by omega)]
    rw [Int32.le_iff_toInt_le, nI_toInt hn] at h
    omega
theorem m_isRow_t {j : Nat} {M : jM} (h : j < 6) : f_X6_isRow (nI j) M = some 1 := by
  unfold f_X6_isRow
  rw [m_in0_t (hi := 5) (n := 5) rfl (by omega) (by decide)]
  rfl
theorem m_isRow_f {x : Int32} {M : jM} (h : x < 0 ∨ nI 6 ≤ x) : f_X6_isRow x M = some 0 := by
  unfold f_X6_isRow
  rw [m_in0_f (hi := 5) (n := 5) rfl h (by decide)]
  rfl
theorem m_isText_t {j : Nat} {M : jM} (h : j < 4) : f_X6_isText (nI j) M = some 1 := by
  unfold f_X6_isText
  rw [m_in0_t (hi := 3) (n := 3) rfl (by omega) (by decide)]
  rfl
theorem m_isText_f {x : Int32} {M : jM} (h : x < 0 ∨ nI 4 ≤ x) : f_X6_isText x M = some 0 := by
  unfold f_X6_isText
  rw [m_in0_f (hi := 3) (n := 3) rfl h (by decide)]
  rfl
theorem x_knowsa_t {j : Nat} {M : jM} (h : j < 6) : f_X4_knowsa (nI j) M = some 1 := by
  unfold f_X4_knowsa
  rw [if_neg (nI_pos (by omega)), show (6 : Int32) = nI 6 from rfl, if_neg (nI_ge h (by decide))]
theorem x_knowsa_f {x : Int32} {M : jM} (h : x < 0 ∨ nI 6 ≤ x) : f_X4_knowsa x M = some 0 := by
  unfold f_X4_knowsa
  by_cases h1 : x < 0
  · rw [if_pos h1]
  · rw [if_neg h1, show (6 : Int32) = nI 6 from rfl, if_pos (h.resolve_left h1)]
theorem x_knowsb_t {j : Nat} {M : jM} (h : j < 4) : f_X4_knowsb (nI j) M = some 1 := by
  unfold f_X4_knowsb
  rw [if_neg (nI_pos (by omega)), show (4 : Int32) = nI 4 from rfl, if_neg (nI_ge h (by decide))]
theorem x_knowsb_f {x : Int32} {M : jM} (h : x < 0 ∨ nI 4 ≤ x) : f_X4_knowsb x M = some 0 := by
  unfold f_X4_knowsb
  by_cases h1 : x < 0
  · rw [if_pos h1]
  · rw [if_neg h1, show (4 : Int32) = nI 4 from rfl, if_pos (h.resolve_left h1)]
/-! which part of the state a place belongs to: 0 what is told, 1 rows, 2 texts, 3 plan, 4 course, 5 kept, 6 scratch -/
def rgX (o : Nat) : Nat := if o = 0 ∨ o = 68 then 0 else if o ≤ 9 then 1 else if o ≤ 16 then 2 else if o ≤ 28 then 6 else if o ≤ 38 then 3 else if o ≤ 44 then 4 else if o ≤ 64 then 5 else 6
def rgM (o k : Nat) : Nat := if o = 0 then (if k = 7 ∨ k = 11 then 3 else if k = 15 then 4 else if 16 ≤ k ∧ k ≤ 19 then 0 else 6) else if o = 14 then 0 else if o ≤ 2 then 1 else if o ≤ 4 then 2 else if o ≤ 10 then 3 else if o ≤ 13 then 4 else if o = 18 ∨ o = 19 then 5 else 6
def stX (j : Nat) (M M' : jM) : Prop := ∀ o k, rgX o = j → gi M' o k = gi M o k ∧ gl M' o k = gl M o k
def stM (j : Nat) (M M' : jM) : Prop := ∀ o k, rgM o k = j → gi M' o k = gi M o k ∧ gl M' o k = gl M o k
theorem stX_rf {j : Nat} {M : jM} : stX j M M := fun _ _ _ => ⟨rfl, rfl⟩
theorem stM_rf {j : Nat} {M : jM} : stM j M M := fun _ _ _ => ⟨rfl, rfl⟩
theorem stX_tr {j : Nat} {M N K : jM} (h1 : stX j M N) (h2 : stX j N K) : stX j M K := fun o k h => ⟨(h2 o k h).1.trans (h1 o k h).1, (h2 o k h).2.trans (h1 o k h).2⟩
theorem stM_tr {j : Nat} {M N K : jM} (h1 : stM j M N) (h2 : stM j N K) : stM j M K := fun o k h => ⟨(h2 o k h).1.trans (h1 o k h).1, (h2 o k h).2.trans (h1 o k h).2⟩
theorem stX_si {j : Nat} {M : jM} {o k : Nat} {v : Int32} (h : rgX o ≠ j) : stX j M (si M o k v) := fun a b hj => by
  have hne : ¬ a = o := fun q => h (q ▸ hj)
  refine ⟨?_, rfl⟩
  rw [gi_si, if_neg (by intro q; exact hne q.1)]
theorem stX_sl {j : Nat} {M : jM} {o k : Nat} {v : Int64} (h : rgX o ≠ j) : stX j M (sl M o k v) := fun a b hj => by
  have hne : ¬ a = o := fun q => h (q ▸ hj)
  refine ⟨rfl, ?_⟩
  rw [gl_sl, if_neg (by intro q; exact hne q.1)]
theorem stM_si {j : Nat} {M : jM} {o k : Nat} {v : Int32} (h : rgM o k ≠ j) : stM j M (si M o k v) := fun a b hj => by
  have hne : ¬ (a = o ∧ b = k) := fun q => h (by rw [← q.1, ← q.2]; exact hj)
  refine ⟨?_, rfl⟩
  rw [gi_si, if_neg hne]
theorem stM_sl {j : Nat} {M : jM} {o k : Nat} {v : Int64} (h : rgM o k ≠ j) : stM j M (sl M o k v) := fun a b hj => by
  have hne : ¬ (a = o ∧ b = k) := fun q => h (by rw [← q.1, ← q.2]; exact hj)
  refine ⟨rfl, ?_⟩
  rw [gl_sl, if_neg hne]
theorem stX_jff {j : Nat} {M : jM} {o i n : Nat} {v : Int32} (h : rgX o ≠ j) : stX j M (jff M o i n v) := fun a b hj => by
  have hne : ¬ a = o := fun q => h (q ▸ hj)
  refine ⟨?_, rfl⟩
  rw [gi_jff, if_neg (by intro q; exact hne q.1)]
theorem stX_jcp {j : Nat} {M : jM} {f : Nat → Int32} {sp b dp n : Nat} (h : rgX b ≠ j) : stX j M (jcp M f sp b dp n) := fun a k hj => by
  have hne : ¬ a = b := fun q => h (q ▸ hj)
  refine ⟨?_, rfl⟩
  rw [gi_jcp, if_neg (by intro q; exact hne q.1)]
