/-! bits, counts, loops -/
theorem jloop {σ α : Type} (L : Nat → σ → Option α) (S : Nat → σ) (r : α) (n : Nat) (hs : ∀ m k, k < n → L (m + 1) (S k) = L m (S (k + 1))) (he : ∀ m, L (m + 1) (S n) = some r) : ∀ (j k m : Nat), k + j = n → j < m → L m (S k) = some r
  | 0, k, m, hk, hm => by
    obtain ⟨m', rfl⟩ : ∃ m', m = m' + 1 := ⟨m - 1, by omega⟩
    have : k = n := by omega
    subst this
    exact he m'
  | j + 1, k, m, hk, hm => by
    obtain ⟨m', rfl⟩ : ∃ m', m = m' + 1 := ⟨m - 1, by omega⟩
    rw [hs m' k (by omega)]
    exact jloop L S r n hs he j (k + 1) m' (by omega) (by omega)
theorem jloop0 {σ α : Type} {L : Nat → σ → Option α} {S : Nat → σ} {r : α} {n : Nat} (hn : n < jfu) (hs : ∀ m k, k < n → L (m + 1) (S k) = L m (S (k + 1))) (he : ∀ m, L (m + 1) (S n) = some r) : L jfu (S 0) = some r := jloop L S r n hs he n 0 jfu (by omega) hn
def b2 (b : Bool) : Int32 := if b = true then 1 else 0
theorem b2_if {α : Type} (b : Bool) (x y : α) : (if b2 b = 0 then x else y) = if b = true then y else x := by cases b <;> rfl
theorem b2_g (b : Bool) : decide (b2 b &&& 1 = b2 b) = true := by cases b <;> rfl
theorem b2_t : b2 true = 1 := rfl
theorem b2_f : b2 false = 0 := rfl
def bts (f : Nat → Bool) : Nat → Nat
  | 0 => 0
  | k + 1 => bts f k + if f k = true then 2 ^ k else 0
def cnt (f : Nat → Bool) : Nat → Nat
  | 0 => 0
  | k + 1 => cnt f k + if f k = true then 1 else 0
theorem bts_lt (f : Nat → Bool) : ∀ k, bts f k < 2 ^ k
  | 0 => Nat.one_pos
  | k + 1 => by
    have h := bts_lt f k
    show bts f k + (if f k = true then 2 ^ k else 0) < 2 ^ (k + 1)
    rw [Nat.pow_succ]
    by_cases c : f k = true
    · rw [if_pos c]; omega
    · rw [if_neg c]; omega
theorem bts_bit (f : Nat → Bool) : ∀ k i, (bts f k).testBit i = (decide (i < k) && f i)
  | 0, i => by simp [bts]
  | k + 1, i => by
    have h := bts_bit f k
    have hl := bts_lt f k
    show (bts f k + (if f k = true then 2 ^ k else 0)).testBit i = _
    by_cases c : f k = true
    · have e := Nat.two_pow_add_eq_or_of_lt hl 1
      rw [Nat.mul_one] at e
      rw [if_pos c, Nat.add_comm, e, Nat.testBit_or, Nat.testBit_two_pow, h]
      by_cases q : k = i
      · subst q; simp [c]
      · by_cases q2 : i < k
        · simp [q, q2, show i < k + 1 by omega]
        · simp [q, q2, show ¬ i < k + 1 by omega]
    · rw [if_neg c, Nat.add_zero, h]
      by_cases q : i = k
      · subst q; simp [c]
      · by_cases q2 : i < k
        · simp [q2, show i < k + 1 by omega]
        · simp [q2, show ¬ i < k + 1 by omega]
theorem cnt_le (f : Nat → Bool) : ∀ k, cnt f k ≤ k
  | 0 => Nat.le_refl _
  | k + 1 => by
    have h := cnt_le f k
    show cnt f k + (if f k = true then 1 else 0) ≤ k + 1
    by_cases c : f k = true
    · rw [if_pos c]; omega
    · rw [if_neg c]; omega
def pc (n : Nat) : Nat := cnt n.testBit 7
def M00 : jM := (fun _ _ => 0, fun _ _ => 0)
theorem x_bc0 : ∀ n, n < 128 → f_J6_bitCount_0f7a4 (nI n) M00 = some (nI (pc n)) := by decide +kernel
theorem m_on0 : ∀ n, n < 128 → f_X6_ones (nI n) M00 = some (nI (pc n)) := by decide +kernel
theorem m_onL (M N : jM) : ∀ (m : Nat) (a b : Int32), f_X6_ones_L4 m a b M = f_X6_ones_L4 m a b N
  | 0, _, _ => rfl
  | m + 1, a, b => by
    show f_X6_ones_L4_b (f_X6_ones_L4 m) a b M = f_X6_ones_L4_b (f_X6_ones_L4 m) a b N
    unfold f_X6_ones_L4_b
    rw [jlet_e, jlet_e, jlet_e, jlet_e, m_onL M N m]
section JB
variable {M : jM}
theorem x_bc {n : Nat} (h : n < 128) : f_J6_bitCount_0f7a4 (nI n) M = some (nI (pc n)) := x_bc0 n h
theorem m_on {n : Nat} (h : n < 128) : f_X6_ones (nI n) M = some (nI (pc n)) := by
  rw [← m_on0 n h]
  unfold f_X6_ones
  rw [m_onL M M00]
theorem jand1 {s i : Nat} (hs : s < 2 ^ 31) (hi : i < 31) : (nI s >>> (nI i &&& 31)) &&& 1 = b2 (s.testBit i) := by
  have e1 : ∀ i, i < 31 → ((nI i &&& 31).toBitVec.smod 32).toNat = i := by decide +kernel
  rw [pk_shrN hs _ i (e1 i hi), pk_andN (k := 1) (by have := Nat.div_le_self s (2 ^ i); omega) rfl]
  have e2 : s.testBit i = decide (s / 2 ^ i % 2 = 1) := by rw [Nat.testBit_eq_decide_div_mod_eq]
  rw [e2]
  rcases Nat.mod_two_eq_zero_or_one (s / 2 ^ i) with q | q
  · rw [show s / 2 ^ i % 2 ^ 1 = 0 from q]; rfl
  · rw [show s / 2 ^ i % 2 ^ 1 = 1 from q]; rfl
theorem x_isIn {s i : Nat} (hs : s < 2 ^ 31) (hi : i < 31) : f_X5_isIn (nI s) (nI i) M = some (b2 (s.testBit i)) := by
  unfold f_X5_isIn
  rw [jand1 hs hi]
  cases s.testBit i <;> rfl
theorem m_has {s i : Nat} (hs : s < 2 ^ 31) (hi : i < 31) : f_X6_has (nI s) (nI i) M = some (b2 (s.testBit i)) := x_isIn (M := M) hs hi
theorem jshl : ∀ i, i < 31 → (1 : Int32) <<< (nI i &&& 31) = nI (2 ^ i) := by decide +kernel
theorem jor (a b : Nat) : nI a ||| nI b = nI (a ||| b) := Int32.toBitVec_inj.mp (BitVec.ofNat_or ..).symm
theorem jand (a b : Nat) : nI a &&& nI b = nI (a &&& b) := Int32.toBitVec_inj.mp (BitVec.ofNat_and ..).symm
def dif (a b : Nat) : Nat := a &&& (127 ^^^ b)
theorem dif_lt {a b : Nat} (h : a < 128) : dif a b < 128 := Nat.lt_of_le_of_lt Nat.and_le_left h
theorem dif_le {a b : Nat} : dif a b ≤ a := Nat.and_le_left
theorem tb127 : ∀ i, i < 7 → (127 : Nat).testBit i = true := by decide
theorem tb7 {a i : Nat} (h : a < 128) (hi : 7 ≤ i) : a.testBit i = false := Nat.testBit_lt_two_pow (Nat.lt_of_lt_of_le h (show 2 ^ 7 ≤ 2 ^ i from Nat.pow_le_pow_right (by decide) hi))
theorem dif_bit {a b : Nat} (h : a < 128) (i : Nat) : (dif a b).testBit i = (a.testBit i && !b.testBit i) := by
  unfold dif
  rw [Nat.testBit_and, Nat.testBit_xor]
  by_cases q : i < 7
  · rw [tb127 i q]; simp
  · rw [tb7 h (by omega)]; simp
theorem jdif0 : ∀ a, a < 128 → ∀ b, b < 128 → nI a &&& (nI b ^^^ (-1)) = nI (dif a b) := by decide +kernel
theorem jdif {a b : Nat} (ha : a < 128) (hb : b < 128) : nI a &&& (nI b ^^^ (-1)) = nI (dif a b) := jdif0 a ha b hb
theorem jbtE {a b : Nat} (h : ∀ i, a.testBit i = b.testBit i) : a = b := Nat.eq_of_testBit_eq h
theorem jbor {f : Nat → Bool} {k : Nat} : nI (bts f k) ||| (if f k = true then nI (2 ^ k) else 0) = nI (bts f (k + 1)) := by
  have hl := bts_lt f k
  show _ = nI (bts f k + (if f k = true then 2 ^ k else 0))
  by_cases c : f k = true
  · have e := Nat.two_pow_add_eq_or_of_lt hl 1
    rw [Nat.mul_one] at e
    rw [if_pos c, if_pos c, jor, Nat.add_comm, e, Nat.or_comm]
  · rw [if_neg c, if_neg c, show (0 : Int32) = nI 0 from rfl, jor, Nat.or_zero, Nat.add_zero]
theorem jcadd {f : Nat → Bool} {k : Nat} : nI (cnt f k) + b2 (f k) = nI (cnt f (k + 1)) := by
  show _ = nI (cnt f k + (if f k = true then 1 else 0))
  cases f k with
  | true => exact nI_add _ 1
  | false => exact nI_add _ 0
theorem bts_cg {f g : Nat → Bool} : ∀ {k : Nat}, (∀ i, i < k → f i = g i) → bts f k = bts g k
  | 0, _ => rfl
  | k + 1, h => by
    show bts f k + (if f k = true then 2 ^ k else 0) = bts g k + (if g k = true then 2 ^ k else 0)
    rw [bts_cg (fun i hi => h i (by omega)), h k (by omega)]
theorem cnt_cg {f g : Nat → Bool} : ∀ {k : Nat}, (∀ i, i < k → f i = g i) → cnt f k = cnt g k
  | 0, _ => rfl
  | k + 1, h => by
    show cnt f k + (if f k = true then 1 else 0) = cnt g k + (if g k = true then 1 else 0)
    rw [cnt_cg (fun i hi => h i (by omega)), h k (by omega)]
theorem cnt_more {f : Nat → Bool} {k : Nat} (h : ∀ i, k ≤ i → f i = false) : ∀ j, cnt f (k + j) = cnt f k
  | 0 => rfl
  | j + 1 => by
    show cnt f (k + j) + (if f (k + j) = true then 1 else 0) = _
    rw [h (k + j) (by omega), cnt_more h j]; rfl
theorem pc_bts {f : Nat → Bool} {k : Nat} (hk : k ≤ 7) : pc (bts f k) = cnt f k := by
  unfold pc
  have e := cnt_more (f := (bts f k).testBit) (k := k) (fun i hi => by rw [bts_bit]; simp [show ¬ i < k by omega]) (7 - k)
  rw [show k + (7 - k) = 7 by omega] at e
  rw [e]
  exact cnt_cg (fun i hi => by rw [bts_bit]; simp [hi])
theorem bts_128 {f : Nat → Bool} {k : Nat} (hk : k ≤ 7) : bts f k < 128 := Nat.lt_of_lt_of_le (bts_lt f k) (Nat.pow_le_pow_right (by decide) hk)
theorem pc_le (n : Nat) : pc n ≤ 7 := cnt_le _ _
/-- the first of a set, the k-th of a set: both sides alike -/
def lo (n : Nat) : Nat := (((List.range 7).find? fun i => n.testBit i).getD 7)
theorem x_first0 : ∀ n, n < 128 → f_X5_firstOf (nI n) M00 = some (if n = 0 then -9 else nI (lo n)) := by decide +kernel
theorem x_first {n : Nat} (h : n < 128) : f_X5_firstOf (nI n) M = some (if n = 0 then -9 else nI (lo n)) := x_first0 n h
theorem lo_spec : ∀ n, n < 128 → n ≠ 0 → lo n < 7 ∧ n.testBit (lo n) = true ∧ ∀ i, i < lo n → n.testBit i = false := by decide +kernel
def nth (n k : Nat) : Nat := (((List.range 7).find? fun i => n.testBit i && decide (cnt n.testBit i = k)).getD 7)
theorem x_nth0 : ∀ n, n < 128 → ∀ k, k < 8 → f_X5_nthOf (nI n) (nI k) M00 = some (if k < pc n then nI (nth n k) else -9) := by decide +kernel
theorem m_one0 : ∀ n, n < 128 → ∀ k, k < 8 → k < pc n → f_X6_oneOf (nI n) (nI k) M00 = some (nI (nth n k)) := by decide +kernel
theorem nth_spec : ∀ n, n < 128 → ∀ k, k < 8 → k < pc n → nth n k < 7 ∧ n.testBit (nth n k) = true := by decide +kernel
theorem x_nthL (N : jM) : ∀ (m : Nat) (a b c : Int32), f_X5_nthOf_L4 m a b c M = f_X5_nthOf_L4 m a b c N
  | 0, _, _, _ => rfl
  | m + 1, a, b, c => by
    show f_X5_nthOf_L4_b (f_X5_nthOf_L4 m) a b c M = f_X5_nthOf_L4_b (f_X5_nthOf_L4 m) a b c N
    unfold f_X5_nthOf_L4_b
    rw [jlet_e, jlet_e, jlet_e, jlet_e, x_nthL N m]
theorem x_nth {n k : Nat} (h : n < 128) (hk : k < 8) : f_X5_nthOf (nI n) (nI k) M = some (if k < pc n then nI (nth n k) else -9) := by
  rw [← x_nth0 n h k hk]
  unfold f_X5_nthOf
  rw [x_nthL M00]
  rfl
end JB
