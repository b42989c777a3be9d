/-! what is where: both sides -/
def CX (q c : Nat → Nat → Nat) (M : jM) : Prop := okP q ∧ hX q M ∧ okC q c ∧ cX 39 q c M
def CM (q c : Nat → Nat → Nat) (M : jM) : Prop := okP q ∧ hM q M ∧ okC q c ∧ cM q c M
def shf (q c : Nat → Nat → Nat) (v : Nat → Nat) (d : Nat) : Nat := bts (fun h => decide (cmg q c h ≤ d) && !((v 1).testBit h || (v 2).testBit h)) (q 0 1)
def whr (q c : Nat → Nat → Nat) (v : Nat → Nat) (h : Nat) : Nat := if (v 1).testBit h = true then 2 else if (v 2).testBit h = true then 3 else if cmg q c h ≤ v 0 then 1 else 0
theorem jacc {f : Nat → Bool} {k : Nat} {x : Int32} (h : x = if f k = true then nI (2 ^ k) else 0) : nI (bts f k) ||| x = nI (bts f (k + 1)) := by rw [h, jbor]
theorem jcac {f : Nat → Bool} {k : Nat} {x : Int32} (h : x = b2 (f k)) : nI (cnt f k) + x = nI (cnt f (k + 1)) := by rw [h, jcadd]
theorem jlt {α : Type} {a b : Nat} (ha : a < 2 ^ 31) (hb : b < 2 ^ 31) (x y : α) : (if nI a < nI b then x else y) = if decide (b ≤ a) = true then y else x := by
  by_cases h : b ≤ a
  · rw [if_neg (nI_nlt h ha), if_pos (by simp [h])]
  · rw [if_pos (nI_lt (by omega) hb), if_neg (by simp [h])]
theorem jle {α : Type} {a b : Nat} (ha : a < 2 ^ 31) (hb : b < 2 ^ 31) (x y : α) : (if nI a ≤ nI b then x else y) = if decide (a ≤ b) = true then x else y := by
  by_cases h : a ≤ b
  · rw [if_pos (nI_le h hb), if_pos (by simp [h])]
  · rw [if_neg (fun w => h ((nI_leI ha hb).mp w)), if_neg (by simp [h])]
theorem jb2i (b : Bool) : (if b2 b = 0 then (0 : Int32) else 1) = b2 b := by cases b <;> rfl
section JQ
variable {q c : Nat → Nat → Nat} {M : jM}
theorem cgd (hq : okP q) (hc : okC q c) : gdV q c (vec q c (c 1 0)) (c 1 0) := gd_vec hq hc _ (Nat.le_refl _)
theorem cmg_le (hq : okP q) (hc : okC q c) {h : Nat} (hh : h < q 0 1) : cmg q c h ≤ 18 := by
  have a := hq.2.2.2.2 h hh
  have b := hc.2.1 (q 6 h) (by omega)
  unfold cmg; omega
theorem x_comes (H : CX q c M) {h : Nat} (hh : h < q 0 1) : f_X0_comingDay (nI h) M = some (nI (cmg q c h)) := by
  obtain ⟨hq, hx, hc, hcx⟩ := H
  have h7 := hq.2.1
  have a := hq.2.2.2.2 h hh
  obtain ⟨a1, a2, a3⟩ := hx.2.2.2 h hh
  have r : gi M 40 (q 6 h) = nI (c 0 (q 6 h)) := hcx.2.2.1 (q 6 h) (by omega)
  unfold f_X0_comingDay
  rw [jg_t (jin_nI (show h < 7 by omega) (by decide)), jg_t (jin_nI (show h < 7 by omega) (by decide)), nI_clamp (show h < 2 ^ 31 by omega), a3, jg_t (jin_nI (show q 6 h < 3 by omega) (by decide)), nI_clamp (show q 6 h < 2 ^ 31 by omega), a2, r, nI_add]
  rfl
theorem m_comes (H : CM q c M) {h : Nat} (hh : h < q 0 1) : f_X6_comes (nI h) M = some (nI (cmg q c h)) := by
  obtain ⟨hq, hx, hc, hcx⟩ := H
  have h7 := hq.2.1
  have a := hq.2.2.2.2 h hh
  obtain ⟨a1, a2, a3⟩ := hx.2.2.2 h hh
  have r : gi M 11 (q 6 h) = nI (c 0 (q 6 h)) := hcx.2.2.2 (q 6 h) (by omega)
  unfold f_X6_comes
  rw [jg_t (jin_nI (show h < 7 by omega) (by decide)), jg_t (jin_nI (show h < 7 by omega) (by decide)), nI_clamp (show h < 2 ^ 31 by omega), a3, jg_t (jin_nI (show q 6 h < 3 by omega) (by decide)), nI_clamp (show q 6 h < 2 ^ 31 by omega), a2, r, nI_add]
  rfl
theorem x7 (H : CX q c M) : gi M 39 7 = nI (vec q c (c 1 0) 0) := H.2.2.2.2.1 0 (by decide)
theorem x8 (H : CX q c M) : gi M 39 8 = nI (vec q c (c 1 0) 1) := H.2.2.2.2.1 1 (by decide)
theorem x9 (H : CX q c M) : gi M 39 9 = nI (vec q c (c 1 0) 2) := H.2.2.2.2.1 2 (by decide)
theorem x10 (H : CX q c M) : gi M 39 10 = nI (vec q c (c 1 0) 3) := H.2.2.2.2.1 3 (by decide)
theorem x11 (H : CX q c M) : gi M 39 11 = nI (vec q c (c 1 0) 4) := H.2.2.2.2.1 4 (by decide)
theorem x6 (H : CX q c M) : gi M 39 6 = nI (c 1 0) := H.2.2.2.1
theorem m12_0 (H : CM q c M) : gi M 12 (0 : Int32).toNatClampNeg = nI (vec q c (c 1 0) 0) := H.2.2.2.2.1 0 (by decide) (Or.inl (by decide))
theorem m12_1 (H : CM q c M) : gi M 12 (1 : Int32).toNatClampNeg = nI (vec q c (c 1 0) 1) := H.2.2.2.2.1 1 (by decide) (Or.inl (by decide))
theorem m12_2 (H : CM q c M) : gi M 12 (2 : Int32).toNatClampNeg = nI (vec q c (c 1 0) 2) := H.2.2.2.2.1 2 (by decide) (Or.inl (by decide))
theorem m12_3 (H : CM q c M) : gi M 12 (3 : Int32).toNatClampNeg = nI (vec q c (c 1 0) 3) := H.2.2.2.2.1 3 (by decide) (Or.inl (by decide))
theorem m12_4 (H : CM q c M) : gi M 12 (4 : Int32).toNatClampNeg = nI (vec q c (c 1 0) 4) := H.2.2.2.2.1 4 (by decide) (Or.inl (by decide))
theorem m15 (H : CM q c M) : gi M 0 15 = nI (c 1 0) := H.2.2.2.1
theorem vbd (hq : okP q) (hc : okC q c) : vec q c (c 1 0) 0 ≤ 40 ∧ vec q c (c 1 0) 1 < 128 ∧ vec q c (c 1 0) 2 < 128 ∧ vec q c (c 1 0) 3 < 64 ∧ vec q c (c 1 0) 4 ≤ 40 ∧ q 0 0 ≤ 6 ∧ q 0 1 ≤ 7 ∧ c 1 0 ≤ 40 := by
  have g := cgd hq hc
  have n := hc.1
  exact ⟨Nat.le_trans g.1 n, g.2.2.1, g.2.2.2.1, g.2.2.2.2.1, Nat.le_trans g.2.1 n, hq.1, hq.2.1, n⟩
theorem whr_if {α : Type} {a : Nat} {v : Nat → Nat} (f : Nat → α) : (if (v 1).testBit a = true then f 2 else if (v 2).testBit a = true then f 3 else if cmg q c a ≤ v 0 then f 1 else f 0) = f (whr q c v a) := by
  unfold whr
  cases (v 1).testBit a with
  | true => rfl
  | false =>
    cases (v 2).testBit a with
    | true => rfl
    | false =>
      rw [if_neg Bool.false_ne_true, if_neg Bool.false_ne_true, if_neg Bool.false_ne_true, if_neg Bool.false_ne_true]
      by_cases e : cmg q c a ≤ v 0
      · rw [if_pos e, if_pos e]
      · rw [if_neg e, if_neg e]
theorem x_where (H : CX q c M) {h : Nat} (hh : h < q 0 1) : f_X0_whereIs (nI h) M = some (nI (whr q c (vec q c (c 1 0)) h)) := by
  have b := vbd H.1 H.2.2.1
  have e := cmg_le H.1 H.2.2.1 hh
  unfold f_X0_whereIs
  rw [x8 H, x9 H, x7 H, x_isIn (by omega) (by omega), x_isIn (by omega) (by omega), jb1_e, jb1_e, b2_if, b2_if, x_comes H hh, jb1_e, jlt (by omega) (by omega), ← whr_if (q := q) (c := c) (fun n => some (nI n))]
  simp only [decide_eq_true_eq]
  rfl
theorem m_where (H : CM q c M) {h : Nat} (hh : h < q 0 1) : f_X6_whereIs (nI h) M = some (nI (whr q c (vec q c (c 1 0)) h)) := by
  have b := vbd H.1 H.2.2.1
  have e := cmg_le H.1 H.2.2.1 hh
  unfold f_X6_whereIs
  rw [m12_0 H, m12_1 H, m12_2 H, m_has (by omega) (by omega), m_has (by omega) (by omega), jb1_e, jb1_e, b2_if, b2_if, m_comes H hh, jb1_e, jlt (by omega) (by omega), ← whr_if (q := q) (c := c) (fun n => some (nI n))]
  simp only [decide_eq_true_eq]
  rfl
theorem x_come (H : CX q c M) {d : Nat} (hd : d < 2 ^ 31) : f_X0_comeBits (nI d) M = some (nI (bts (fun h => decide (cmg q c h ≤ d)) (q 0 1))) := by
  have b := vbd H.1 H.2.2.1
  have hl : f_X0_comeBits_L4 jfu (nI d) 0 0 M = some (nI (bts (fun h => decide (cmg q c h ≤ d)) (q 0 1)), nI (q 0 1)) := by
    refine jloop0 (L := fun m (s : Int32 × Int32) => f_X0_comeBits_L4 m (nI d) s.1 s.2 M) (S := fun k => (nI (bts (fun h => decide (cmg q c h ≤ d)) k), nI k)) (n := q 0 1) (by unfold jfu; omega) ?_ ?_
    · intro m k hk
      show f_X0_comeBits_L4_b (f_X0_comeBits_L4 m) (nI d) _ (nI k) M = f_X0_comeBits_L4 m (nI d) _ (nI (k + 1)) M
      have e := cmg_le H.1 H.2.2.1 hk
      unfold f_X0_comeBits_L4_b
      rw [H.2.1.2.1, if_neg (nI_ge hk (by omega)), x_comes H hk, jb1_e, jlet_e, jlet_e, jlet_e, nI_1, jlt (by omega) (by omega), jshl k (by omega), jacc rfl]
    · intro m
      show f_X0_comeBits_L4_b (f_X0_comeBits_L4 m) (nI d) _ (nI (q 0 1)) M = _
      unfold f_X0_comeBits_L4_b
      rw [H.2.1.2.1, if_pos (nI_le (Nat.le_refl _) (by omega))]
  unfold f_X0_comeBits
  rw [hl]; rfl
theorem jfull : ∀ h, h < 8 → ((1 : Int32) <<< (nI h &&& 31)) - 1 = nI (2 ^ h - 1) := by decide +kernel
def uno (q : Nat → Nat → Nat) (v : Nat → Nat) : Nat := dif (2 ^ q 0 1 - 1) (v 1 ||| v 2)
theorem x_uno (H : CX q c M) : f_X0_unopenedBits M = some (nI (uno q (vec q c (c 1 0)))) := by
  have b := vbd H.1 H.2.2.1
  have e : 2 ^ q 0 1 - 1 < 128 := by
    have : 2 ^ q 0 1 ≤ 2 ^ 7 := Nat.pow_le_pow_right (by decide) b.2.2.2.2.2.2.1
    omega
  unfold f_X0_unopenedBits
  rw [H.2.1.2.1, x8 H, x9 H, jfull _ (by omega), jor, jdif e (Nat.or_lt_two_pow (n := 7) b.2.1 b.2.2.1)]
  rfl
theorem uno_bit (hq : okP q) {v : Nat → Nat} (i : Nat) : (uno q v).testBit i = (decide (i < q 0 1) && !((v 1).testBit i || (v 2).testBit i)) := by
  have e : 2 ^ q 0 1 - 1 < 128 := by
    have : 2 ^ q 0 1 ≤ 2 ^ 7 := Nat.pow_le_pow_right (by decide) hq.2.1
    omega
  unfold uno
  rw [dif_bit e, Nat.testBit_two_pow_sub_one, Nat.testBit_or]
theorem uno_lt (hq : okP q) {v : Nat → Nat} : uno q v < 128 := dif_lt (by
    have : 2 ^ q 0 1 ≤ 2 ^ 7 := Nat.pow_le_pow_right (by decide) hq.2.1
    omega)
theorem shf_lt (hq : okP q) {v : Nat → Nat} {d : Nat} : shf q c v d < 128 := bts_128 hq.2.1
theorem shf_bit {v : Nat → Nat} {d : Nat} (i : Nat) : (shf q c v d).testBit i = (decide (i < q 0 1) && (decide (cmg q c i ≤ d) && !((v 1).testBit i || (v 2).testBit i))) := bts_bit _ _ _
theorem x_shelf (H : CX q c M) : f_X0_shelfBits M = some (nI (shf q c (vec q c (c 1 0)) (vec q c (c 1 0) 0))) := by
  have b := vbd H.1 H.2.2.1
  unfold f_X0_shelfBits
  rw [x7 H, x_come H (by omega), jb1_e, x_uno H, jb1_e, jand]
  refine congrArg some (congrArg nI (jbtE fun i => ?_))
  rw [Nat.testBit_and, bts_bit, uno_bit H.1, shf_bit]
  cases decide (i < q 0 1) <;> simp
theorem m_shelf (H : CM q c M) {d : Nat} (hd : d < 2 ^ 31) : f_X6_shelfOn (nI d) M = some (nI (shf q c (vec q c (c 1 0)) d)) := by
  have b := vbd H.1 H.2.2.1
  have hl : f_X6_shelfOn_L4 jfu (nI d) 0 0 M = some (nI (shf q c (vec q c (c 1 0)) d), nI (q 0 1)) := by
    refine jloop0 (L := fun m (s : Int32 × Int32) => f_X6_shelfOn_L4 m (nI d) s.1 s.2 M) (S := fun k => (nI (bts (fun h => decide (cmg q c h ≤ d) && !((vec q c (c 1 0) 1).testBit h || (vec q c (c 1 0) 2).testBit h)) k), nI k)) (n := q 0 1) (by unfold jfu; omega) ?_ ?_
    · intro m k hk
      show f_X6_shelfOn_L4_b (f_X6_shelfOn_L4 m) (nI d) _ (nI k) M = f_X6_shelfOn_L4 m (nI d) _ (nI (k + 1)) M
      have e := cmg_le H.1 H.2.2.1 hk
      unfold f_X6_shelfOn_L4_b
      rw [H.2.1.2.1, if_neg (nI_ge hk (by omega)), m_comes H hk, jb1_e, jlt (by omega) (by omega), m12_1 H, m12_2 H, jor, m_has (by have := Nat.or_lt_two_pow (n := 7) b.2.1 b.2.2.1; omega) (by omega), jb1_e, b2_if, jshl k (by omega), Nat.testBit_or]
      have e2 : (if decide (cmg q c k ≤ d) = true then (if ((vec q c (c 1 0) 1).testBit k || (vec q c (c 1 0) 2).testBit k) = true then some (0 : Int32) else some (nI (2 ^ k))) else some 0) = some (if (decide (cmg q c k ≤ d) && !((vec q c (c 1 0) 1).testBit k || (vec q c (c 1 0) 2).testBit k)) = true then nI (2 ^ k) else 0) := by
        cases decide (cmg q c k ≤ d) <;> cases ((vec q c (c 1 0) 1).testBit k || (vec q c (c 1 0) 2).testBit k) <;> rfl
      rw [e2, jb1_e, jlet_e, jlet_e, nI_1, jacc rfl]
    · intro m
      show f_X6_shelfOn_L4_b (f_X6_shelfOn_L4 m) (nI d) _ (nI (q 0 1)) M = _
      unfold f_X6_shelfOn_L4_b
      rw [H.2.1.2.1, if_pos (nI_le (Nat.le_refl _) (by omega))]
      rfl
  unfold f_X6_shelfOn
  rw [hl]; rfl
end JQ
