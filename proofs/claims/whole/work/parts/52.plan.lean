/-! the plan: q 0 0 deeds, q 0 1 hours, q 1 kinds, q 2 lights, q 3 needs, q 4 times, q 5 days of sending, q 6 routes -/
def okP (q : Nat → Nat → Nat) : Prop := q 0 0 ≤ 6 ∧ q 0 1 ≤ 7 ∧ (q 0 0 = 0 → q 0 1 = 0) ∧ (∀ i, i < q 0 0 → q 1 i ≤ 5 ∧ q 2 i ≤ 2 ∧ q 3 i < 2 ^ i) ∧ ∀ h, h < q 0 1 → q 4 h ≤ 23 ∧ q 5 h ≤ 9 ∧ q 6 h ≤ 2
def ngt (t : Nat) : Bool := decide (t < 6) || decide (17 < t)
def litB (l t : Nat) : Bool := decide (l = 2) || (ngt t == decide (l = 1))
def timB (k t : Nat) : Bool := !(decide (k = 2)) || decide (20 ≤ t) || decide (t ≤ 5)
def isk (a k : Nat) : Bool := decide (a = k) || (decide (a = 4) && decide (k = 1)) || (decide (a = 5) && decide (k = 2))
def lit (q : Nat → Nat → Nat) (i h : Nat) : Bool := litB (q 2 i) (q 4 h)
def tim (q : Nat → Nat → Nat) (i h : Nat) : Bool := timB (q 1 i) (q 4 h)
def hun (q : Nat → Nat → Nat) (i s : Nat) : Bool := !(isk (q 1 i) 1) || decide (2 ≤ s)
def com (q : Nat → Nat → Nat) (i d : Nat) : Bool := !(decide (q 1 i = 4)) || decide (2 ≤ pc (dif d (q 3 i)))
def hin (q : Nat → Nat → Nat) (i h d s : Nat) : Nat := if d.testBit i = true then 1 else if dif (q 3 i) d = 0 then (if lit q i h = true then (if (tim q i h && (hun q i s && com q i d)) = true then 0 else 4) else 3) else 2
/-- all needs of a deed: of set s the needs of what is below j -/
def dl (N : Nat → Nat) : Nat → Nat → Nat
  | 0, s => s
  | j + 1, s => dl N j (if s.testBit j = true then s ||| N j else s)
def mc (q : Nat → Nat → Nat) (i : Nat) : Nat := dl (q 3) i (q 3 i)
def rdy (q : Nat → Nat → Nat) (i : Nat) : Nat := bts (fun s => !(s.testBit i) && (decide (dif (q 3 i) s = 0) && com q i s)) 64
def sui (q : Nat → Nat → Nat) (i : Nat) : Nat := bts (fun h => lit q i h && tim q i h) (q 0 1)
def hX (q : Nat → Nat → Nat) (M : jM) : Prop := gi M 29 0 = nI (q 0 0) ∧ gi M 29 1 = nI (q 0 1) ∧ (∀ i, i < q 0 0 → gi M 30 i = nI (q 1 i) ∧ gi M 31 i = nI (q 2 i) ∧ gi M 32 i = nI (q 3 i) ∧ gi M 33 i = nI (mc q i) ∧ gl M 37 i = lN (rdy q i) ∧ gi M 38 i = nI (sui q i)) ∧ ∀ h, h < q 0 1 → gi M 34 h = nI (q 4 h) ∧ gi M 35 h = nI (q 5 h) ∧ gi M 36 h = nI (q 6 h)
def hM (q : Nat → Nat → Nat) (M : jM) : Prop := gi M 0 7 = nI (q 0 0) ∧ gi M 0 11 = nI (q 0 1) ∧ (∀ i, i < q 0 0 → gi M 5 i = nI (q 1 i) ∧ gi M 6 i = nI (q 2 i) ∧ gi M 7 i = nI (q 3 i)) ∧ ∀ h, h < q 0 1 → gi M 8 h = nI (q 4 h) ∧ gi M 9 h = nI (q 5 h) ∧ gi M 10 h = nI (q 6 h)
section JP
variable {q : Nat → Nat → Nat} {M : jM}
theorem q3_lt (hq : okP q) {i : Nat} (hi : i < q 0 0) : q 3 i < 64 := Nat.lt_of_lt_of_le ((hq.2.2.2.1 i hi).2.2) (show 2 ^ i ≤ 2 ^ 6 from Nat.pow_le_pow_right (by decide) (by have := hq.1; omega))
theorem x_hd_t (hq : okP q) (h : hX q M) {i : Nat} (hi : i < q 0 0) : f_X2_hasDeed (nI i) M = some 1 := by
  have := hq.1
  unfold f_X2_hasDeed
  rw [if_neg (nI_pos (by omega)), h.1, if_neg (nI_ge hi (by omega))]
theorem x_hd_f (h : hX q M) {x : Int32} (hx : x < 0 ∨ nI (q 0 0) ≤ x) : f_X2_hasDeed x M = some 0 := by
  unfold f_X2_hasDeed
  by_cases h1 : x < 0
  · rw [if_pos h1]
  · rw [if_neg h1, h.1, if_pos (hx.resolve_left h1)]
theorem x_hh_t (hq : okP q) (h : hX q M) {i : Nat} (hi : i < q 0 1) : f_X2_hasHour (nI i) M = some 1 := by
  have := hq.2.1
  unfold f_X2_hasHour
  rw [if_neg (nI_pos (by omega)), h.2.1, if_neg (nI_ge hi (by omega))]
theorem x_hh_f (h : hX q M) {x : Int32} (hx : x < 0 ∨ nI (q 0 1) ≤ x) : f_X2_hasHour x M = some 0 := by
  unfold f_X2_hasHour
  by_cases h1 : x < 0
  · rw [if_pos h1]
  · rw [if_neg h1, h.2.1, if_pos (hx.resolve_left h1)]
theorem m_hd_t (hq : okP q) (h : hM q M) {i : Nat} (hi : i < q 0 0) : f_X6_isDeed (nI i) M = some 1 := by
  have := hq.1
  unfold f_X6_isDeed
  rw [h.1, m_inS_t hi (by omega)]; rfl
theorem m_hd_f (hq : okP q) (h : hM q M) {x : Int32} (hx : x < 0 ∨ nI (q 0 0) ≤ x) : f_X6_isDeed x M = some 0 := by
  have := hq.1
  unfold f_X6_isDeed
  rw [h.1, m_inS_f hx (by omega)]; rfl
theorem m_hh_t (hq : okP q) (h : hM q M) {i : Nat} (hi : i < q 0 1) : f_X6_isHour (nI i) M = some 1 := by
  have := hq.2.1
  unfold f_X6_isHour
  rw [h.2.1, m_inS_t hi (by omega)]; rfl
theorem m_hh_f (hq : okP q) (h : hM q M) {x : Int32} (hx : x < 0 ∨ nI (q 0 1) ≤ x) : f_X6_isHour x M = some 0 := by
  have := hq.2.1
  unfold f_X6_isHour
  rw [h.2.1, m_inS_f hx (by omega)]; rfl
theorem jdeed (q : Nat → Nat → Nat) (hq : okP q) (x : Int32) (k : Nat) (hk : k = 0 ∨ k = 1) : (x < 0 ∨ nI (q 0 k) ≤ x) ∨ ∃ i, i < q 0 k ∧ x = nI i := by
  have h1 := hq.1
  have h2 := hq.2.1
  rcases jin_of (x := x) (n := q 0 k) (by rcases hk with rfl | rfl <;> omega) with w | w | w
  · exact Or.inl (Or.inl w)
  · exact Or.inl (Or.inr w)
  · exact Or.inr w
theorem x_night (hq : okP q) (h : hX q M) {k : Nat} (hk : k < q 0 1) : f_X2_isNight (nI k) M = some (b2 (ngt (q 4 k))) := by
  have h7 := hq.2.1
  have ht := (hq.2.2.2.2 k hk).1
  unfold f_X2_isNight
  rw [jg_t (jin_nI (show k < 7 by omega) (by decide)), nI_clamp (show k < 2 ^ 31 by omega), (h.2.2.2 k hk).1, jg_t (jin_nI (show k < 7 by omega) (by decide))]
  exact (show ∀ t, t < 24 → (if nI t < 6 then (some (1 : Int32)) else (if nI t ≤ 17 then (some (0 : Int32)) else (some (1 : Int32)))) = some (b2 (ngt t)) by decide +kernel) _ (by omega)
theorem m_in3 : ∀ a, a < 24 → f_X6_in (nI a).toInt64 6 17 M00 = some (b2 (!(ngt a))) := by decide +kernel
theorem m_in4 : ∀ a, a < 24 → f_X6_in (nI a).toInt64 6 19 M00 = some (b2 (!(decide (20 ≤ a) || decide (a ≤ 5)))) := by decide +kernel
theorem m_inM (a b c : Int64) : f_X6_in a b c M = f_X6_in a b c M00 := rfl
theorem m_night (hq : okP q) (h : hM q M) {k : Nat} (hk : k < q 0 1) : f_X6_isNight (nI k) M = some (b2 (ngt (q 4 k))) := by
  have h7 := hq.2.1
  have ht := (hq.2.2.2.2 k hk).1
  unfold f_X6_isNight
  rw [jg_t (jin_nI (show k < 7 by omega) (by decide)), nI_clamp (show k < 2 ^ 31 by omega), (h.2.2.2 k hk).1, m_inM, m_in3 _ (by omega), jb1_e, b2_if]
  cases ngt (q 4 k) <;> rfl
theorem x_light (hq : okP q) (h : hX q M) {i k : Nat} (hi : i < q 0 0) (hk : k < q 0 1) : f_X2_hasLight (nI i) (nI k) M = some (b2 (lit q i k)) := by
  have h6 := hq.1
  have hl := (hq.2.2.2.1 i hi).2.1
  unfold f_X2_hasLight
  rw [jg_t (jin_nI (show i < 6 by omega) (by decide)), nI_clamp (show i < 2 ^ 31 by omega), (h.2.2.1 i hi).2.1, x_night hq h hk, jb1_e, jg_t (jin_nI (show i < 6 by omega) (by decide)), jlet_e]
  unfold lit litB
  exact (show ∀ b : Bool, ∀ l, l < 3 → (if nI l = 2 then some (1 : Int32) else (if b2 b = (if nI l = 0 then (0 : Int32) else 1) then some (1 : Int32) else some 0)) = some (b2 (decide (l = 2) || (b == decide (l = 1)))) by decide) _ _ (by omega)
theorem m_light (hq : okP q) (h : hM q M) {i k : Nat} (hi : i < q 0 0) (hk : k < q 0 1) : f_X6_isLight (nI i) (nI k) M = some (b2 (lit q i k)) := by
  have h6 := hq.1
  have hl := (hq.2.2.2.1 i hi).2.1
  unfold f_X6_isLight
  rw [jg_t (jin_nI (show i < 6 by omega) (by decide)), nI_clamp (show i < 2 ^ 31 by omega), (h.2.2.1 i hi).2.1, m_night hq h hk, jb1_e, jg_t (jin_nI (show i < 6 by omega) (by decide)), jlet_e]
  unfold lit litB
  exact (show ∀ b : Bool, ∀ l, l < 3 → (if nI l = 2 then some (1 : Int32) else (if b2 b = (if nI l = 1 then (1 : Int32) else 0) then some (1 : Int32) else some 0)) = some (b2 (decide (l = 2) || (b == decide (l = 1)))) by decide) _ _ (by omega)
theorem m_kind : ∀ a, a < 6 → ∀ k, k < 6 → f_X6_isKind (nI a) (nI k) M00 = some (b2 (isk a k)) := by decide +kernel
theorem m_isKind {a k : Nat} (ha : a ≤ 5) (hk : k ≤ 5) : f_X6_isKind (nI a) (nI k) M = some (b2 (isk a k)) := m_kind a (by omega) k (by omega)
theorem x_kind (hq : okP q) (h : hX q M) {i k : Nat} (hi : i < q 0 0) (hk : k ≤ 5) : f_X2_isOfKind (nI i) (nI k) M = some (b2 (isk (q 1 i) k)) := by
  have h6 := hq.1
  unfold f_X2_isOfKind
  rw [jg_t (jin_nI (show i < 6 by omega) (by decide)), jlet_e, nI_clamp (show i < 2 ^ 31 by omega), (h.2.2.1 i hi).1]
  exact m_isKind (M := M) (hq.2.2.2.1 i hi).1 hk
theorem x_time (hq : okP q) (h : hX q M) {i k : Nat} (hi : i < q 0 0) (hk : k < q 0 1) : f_X2_isTimeOf (nI i) (nI k) M = some (b2 (tim q i k)) := by
  have h6 := hq.1
  have h7 := hq.2.1
  have ha := (hq.2.2.2.1 i hi).1
  have ht := (hq.2.2.2.2 k hk).1
  unfold f_X2_isTimeOf
  rw [jg_t (jin_nI (show i < 6 by omega) (by decide)), nI_clamp (show i < 2 ^ 31 by omega), (h.2.2.1 i hi).1, jg_t (jin_nI (show k < 7 by omega) (by decide)), nI_clamp (show k < 2 ^ 31 by omega), (h.2.2.2 k hk).1, jg_t (jin_nI (show k < 7 by omega) (by decide))]
  unfold tim
  exact (show ∀ a, a < 6 → ∀ t, t < 24 → (if nI a = 2 then (if 20 ≤ nI t then some (1 : Int32) else (if 5 < nI t then some 0 else some 1)) else some 1) = some (b2 (timB a t)) by decide +kernel) _ (by omega) _ (by omega)
theorem x_hungry (hq : okP q) (h : hX q M) {i s : Nat} (hi : i < q 0 0) (hs : s < 2 ^ 31) : f_X2_isHungry (nI i) (nI s) M = some (b2 (hun q i s)) := by
  unfold f_X2_isHungry
  rw [show (1 : Int32) = nI 1 from rfl, x_kind hq h hi (by decide), jb1_e, b2_if]
  unfold hun
  cases isk (q 1 i) 1 with
  | false => rfl
  | true =>
    rw [if_pos rfl, show (2 : Int32) = nI 2 from rfl]
    by_cases c : s < 2
    · rw [if_pos (nI_lt c (by decide))]; simp [show ¬ 2 ≤ s by omega, b2]
    · rw [if_neg (nI_nlt (by omega) hs)]; simp [show 2 ≤ s by omega, b2]; rfl
theorem x_company (hq : okP q) (h : hX q M) {i d : Nat} (hi : i < q 0 0) (hd : d < 128) : f_X2_company (nI i) (nI d) M = some (nI (pc (dif d (q 3 i)))) := by
  have h6 := hq.1
  unfold f_X2_company
  rw [jg_t (jin_nI (show i < 6 by omega) (by decide)), nI_clamp (show i < 2 ^ 31 by omega), (h.2.2.1 i hi).2.2.1, jdif hd (by have := q3_lt hq hi; omega), x_bc (dif_lt hd)]; rfl
theorem jpc2 {n : Nat} : (if nI (pc n) < 2 then some (0 : Int32) else some 1) = some (b2 (decide (2 ≤ pc n))) := by
  have := pc_le n
  exact (show ∀ p, p < 8 → (if nI p < 2 then some (0 : Int32) else some 1) = some (b2 (decide (2 ≤ p))) by decide) _ (by omega)
theorem jk4 {k : Nat} (h : k ≤ 5) (x y : Option Int32) : (if nI k = 4 then x else y) = if decide (k = 4) = true then x else y := by
  rcases (show k = 4 ∨ k ≠ 4 by omega) with rfl | e
  · rfl
  · rw [if_neg (show ¬ nI k = 4 from fun w => e ((nI_eq (b := 4) (by omega) (by decide)).mp w)), if_neg (by simp [e])]
theorem jk2 {k : Nat} (h : k ≤ 5) (x y : Option Int32) : (if nI k = 2 then x else y) = if decide (k = 2) = true then x else y := by
  rcases (show k = 2 ∨ k ≠ 2 by omega) with rfl | e
  · rfl
  · rw [if_neg (show ¬ nI k = 2 from fun w => e ((nI_eq (b := 2) (by omega) (by decide)).mp w)), if_neg (by simp [e])]
theorem x_hasCom (hq : okP q) (h : hX q M) {i d : Nat} (hi : i < q 0 0) (hd : d < 128) : f_X2_hasCompany (nI i) (nI d) M = some (b2 (com q i d)) := by
  have h6 := hq.1
  unfold f_X2_hasCompany
  rw [jg_t (jin_nI (show i < 6 by omega) (by decide)), nI_clamp (show i < 2 ^ 31 by omega), (h.2.2.1 i hi).1, x_company hq h hi hd, jb1_e, jpc2, jk4 (hq.2.2.2.1 i hi).1]
  unfold com
  cases decide (q 1 i = 4) <;> rfl
theorem jz {n : Nat} (h : n < 2 ^ 31) (x y : Option Int32) : (if nI n = 0 then x else y) = if n = 0 then x else y := by
  rcases (show n = 0 ∨ n ≠ 0 by omega) with rfl | e
  · rfl
  · rw [if_neg (nI_ne0 (by omega) h), if_neg e]
theorem x_hin (hq : okP q) (h : hX q M) {i k d s : Nat} (hi : i < q 0 0) (hk : k < q 0 1) (hd : d < 64) (hs : s < 2 ^ 31) : f_X2_hindrance (nI i) (nI k) (nI d) (nI s) M = some (nI (hin q i k d s)) := by
  have h6 := hq.1
  have h3 := q3_lt hq hi
  unfold f_X2_hindrance
  rw [x_isIn (by omega) (by omega), jb1_e, b2_if, jg_t (jin_nI (show i < 6 by omega) (by decide)), nI_clamp (show i < 2 ^ 31 by omega), (h.2.2.1 i hi).2.2.1, jdif (by omega) (by omega), jz (by have := dif_lt (a := q 3 i) (b := d) (by omega); omega), x_light hq h hi hk, jb1_e, b2_if, x_time hq h hi hk, jb1_e, b2_if, x_hungry hq h hi hs, jb1_e, b2_if, x_hasCom hq h hi (by omega), jb1_e, b2_if]
  unfold hin
  cases d.testBit i with
  | true => rfl
  | false =>
    rw [if_neg Bool.false_ne_true, if_neg Bool.false_ne_true]
    by_cases c : dif (q 3 i) d = 0
    · rw [if_pos c, if_pos c]
      cases lit q i k with
      | false => rfl
      | true => cases tim q i k <;> cases hun q i s <;> cases com q i d <;> rfl
    · rw [if_neg c, if_neg c]; rfl
theorem m_isAs (hq : okP q) (h : hM q M) {i k d s : Nat} (hi : i < q 0 0) (hk : k < q 0 1) (hd : d < 64) (hs : s < 2 ^ 31) : f_X6_isAsKind (nI i) (nI k) (nI d) (nI s) M = some (b2 (tim q i k && (hun q i s && com q i d))) := by
  have h6 := hq.1
  have h7 := hq.2.1
  have h3 := q3_lt hq hi
  have ha := (hq.2.2.2.1 i hi).1
  have ht := (hq.2.2.2.2 k hk).1
  unfold f_X6_isAsKind
  have e1 : f_X6_isKind (nI (q 1 i)) 1 M = some (b2 (isk (q 1 i) 1)) := m_isKind (k := 1) ha (by decide)
  have e3 : ((2 : Int32) ≤ nI s) = (decide (2 ≤ s) = true) := by
    by_cases c : 2 ≤ s
    · simp [c, show (2 : Int32) ≤ nI s from nI_le (a := 2) c hs]
    · simp [c, show ¬ (2 : Int32) ≤ nI s from fun w => c ((nI_leI (a := 2) (by decide) hs).mp w)]
  simp only [jg_t (jin_nI (show i < 6 by omega) (by decide)), jlet_e, nI_clamp (show i < 2 ^ 31 by omega), (h.2.2.1 i hi).1, e1, jb1_e, b2_if, jg_t (jin_nI (show k < 7 by omega) (by decide)), nI_clamp (show k < 2 ^ 31 by omega), (h.2.2.2 k hk).1, m_inM, m_in4 (q 4 k) (by omega), (h.2.2.1 i hi).2.2, jdif (show d < 128 by omega) (show q 3 i < 128 by omega), m_on (dif_lt (b := q 3 i) (show d < 128 by omega)), jpc2, jk2 ha, jk4 ha, e3]
  unfold tim timB hun com
  generalize decide (20 ≤ q 4 k) = b1
  generalize decide (q 4 k ≤ 5) = b2'
  generalize decide (2 ≤ s) = b3
  generalize decide (2 ≤ pc (dif d (q 3 i))) = b4
  generalize isk (q 1 i) 1 = b5
  generalize decide (q 1 i = 2) = b6
  generalize decide (q 1 i = 4) = b7
  cases b1 <;> cases b2' <;> cases b3 <;> cases b4 <;> cases b5 <;> cases b6 <;> cases b7 <;> rfl
theorem m_can (hq : okP q) (h : hM q M) {i k d s : Nat} (hi : i < q 0 0) (hk : k < q 0 1) (hd : d < 64) (hs : s < 2 ^ 31) : f_X6_canBe (nI i) (nI k) (nI d) (nI s) M = some (b2 (decide (hin q i k d s = 0))) := by
  have h6 := hq.1
  have h3 := q3_lt hq hi
  unfold f_X6_canBe
  rw [m_has (by omega) (by omega), jb1_e, b2_if, jg_t (jin_nI (show i < 6 by omega) (by decide)), nI_clamp (show i < 2 ^ 31 by omega), (h.2.2.1 i hi).2.2, jdif (by omega) (by omega), jz (by have := dif_lt (a := q 3 i) (b := d) (by omega); omega), m_light hq h hi hk, jb1_e, b2_if, m_isAs hq h hi hk hd hs, jb1_e, b2_if]
  unfold hin
  cases d.testBit i with
  | true => rfl
  | false =>
    rw [if_neg Bool.false_ne_true, if_neg Bool.false_ne_true]
    by_cases c : dif (q 3 i) d = 0
    · rw [if_pos c, if_pos c]
      cases lit q i k with
      | false => rfl
      | true => cases (tim q i k && (hun q i s && com q i d)) <;> rfl
    · rw [if_neg c, if_neg c]; rfl
end JP
