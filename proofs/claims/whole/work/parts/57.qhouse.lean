/-! a house is taken over -/
theorem dl_bit (N : Nat → Nat) : ∀ (j s b : Nat), (dl N j s).testBit b = true ↔ s.testBit b = true ∨ ∃ k, k < j ∧ s.testBit k = true ∧ (dl N k (N k)).testBit b = true
  | 0, s, b => ⟨Or.inl, fun h => h.resolve_right (fun ⟨_, h, _⟩ => absurd h (Nat.not_lt_zero _))⟩
  | j + 1, s, b => by
    show (dl N j (if s.testBit j = true then s ||| N j else s)).testBit b = true ↔ _
    by_cases c : s.testBit j = true
    · rw [if_pos c, dl_bit N j (s ||| N j) b]
      have hj := dl_bit N j (N j) b
      constructor
      · rintro (h | ⟨k, h1, h2, h3⟩)
        · rw [Nat.testBit_or, Bool.or_eq_true] at h
          rcases h with h | h
          · exact Or.inl h
          · exact Or.inr ⟨j, by omega, c, hj.mpr (Or.inl h)⟩
        · rw [Nat.testBit_or, Bool.or_eq_true] at h2
          rcases h2 with h2 | h2
          · exact Or.inr ⟨k, by omega, h2, h3⟩
          · exact Or.inr ⟨j, by omega, c, hj.mpr (Or.inr ⟨k, h1, h2, h3⟩)⟩
      · rintro (h | ⟨k, h1, h2, h3⟩)
        · exact Or.inl (by rw [Nat.testBit_or, h]; rfl)
        · by_cases e : k = j
          · subst e
            rcases hj.mp h3 with h | ⟨k', a1, a2, a3⟩
            · exact Or.inl (by rw [Nat.testBit_or, h]; simp)
            · exact Or.inr ⟨k', a1, by rw [Nat.testBit_or, a2]; simp, a3⟩
          · exact Or.inr ⟨k, by omega, by rw [Nat.testBit_or, h2]; rfl, h3⟩
    · rw [if_neg c, dl_bit N j s b]
      constructor
      · rintro (h | ⟨k, h1, h2, h3⟩)
        · exact Or.inl h
        · exact Or.inr ⟨k, by omega, h2, h3⟩
      · rintro (h | ⟨k, h1, h2, h3⟩)
        · exact Or.inl h
        · by_cases e : k = j
          · subst e; exact absurd h2 c
          · exact Or.inr ⟨k, by omega, h2, h3⟩
def ac (q : Nat → Nat → Nat) (i : Nat) : Nat → Nat
  | 0 => q 3 i
  | k + 1 => ac q i k ||| (if (q 3 i).testBit k = true then mc q k else 0)
theorem ac_bit {q : Nat → Nat → Nat} {i b : Nat} : ∀ k, (ac q i k).testBit b = true ↔ (q 3 i).testBit b = true ∨ ∃ z, z < k ∧ (q 3 i).testBit z = true ∧ (mc q z).testBit b = true
  | 0 => ⟨Or.inl, fun h => h.resolve_right (fun ⟨_, h, _⟩ => absurd h (Nat.not_lt_zero _))⟩
  | k + 1 => by
    have ih := ac_bit (q := q) (i := i) (b := b) k
    show (ac q i k ||| (if (q 3 i).testBit k = true then mc q k else 0)).testBit b = true ↔ _
    rw [Nat.testBit_or, Bool.or_eq_true, ih]
    constructor
    · rintro ((h | ⟨z, h1, h2⟩) | h)
      · exact Or.inl h
      · exact Or.inr ⟨z, by omega, h2⟩
      · by_cases c : (q 3 i).testBit k = true
        · rw [if_pos c] at h; exact Or.inr ⟨k, by omega, c, h⟩
        · rw [if_neg c] at h; simp at h
    · rintro (h | ⟨z, h1, h2, h3⟩)
      · exact Or.inl (Or.inl h)
      · by_cases e : z = k
        · subst e; exact Or.inr (by rw [if_pos h2]; exact h3)
        · exact Or.inl (Or.inr ⟨z, by omega, h2, h3⟩)
theorem ac_mc {q : Nat → Nat → Nat} {i : Nat} : ac q i i = mc q i := jbtE fun b => by
  have h : (ac q i i).testBit b = true ↔ (mc q i).testBit b = true := (ac_bit i).trans (dl_bit (q 3) i (q 3 i) b).symm
  cases h1 : (ac q i i).testBit b with
  | true => exact (h.mp h1).symm
  | false =>
    cases h2 : (mc q i).testBit b with
    | false => rfl
    | true => rw [h.mpr h2] at h1; exact absurd h1 (by decide)
section KE
variable {q : Nat → Nat → Nat} {Mx Mm M : jM}
theorem x_pdL (hq : okP q) {i : Nat} (hi : i < q 0 0) : ∀ (r k m : Nat) (M : jM), k + r = i → r < m → (∀ z, z < i → gi M 33 z = nI (mc q z)) → gi M 33 i = nI (ac q i k) → ∃ N, f_X2_addDeed_L61 m (nI (q 3 i)) (nI i) (nI k) M = some (nI i, N) ∧ gi N 33 i = nI (mc q i) ∧ (∀ a z, ¬ (a = 33 ∧ z = i) → gi N a z = gi M a z) ∧ ∀ a z, gl N a z = gl M a z
  | 0, k, m, M, hk, hm, hz, hg => by
    obtain ⟨m', rfl⟩ : ∃ m', m = m' + 1 := ⟨m - 1, by omega⟩
    have h6 := hq.1
    have e : k = i := by omega
    subst e
    refine ⟨M, ?_, by rw [hg, ac_mc], fun _ _ _ => rfl, fun _ _ => rfl⟩
    show f_X2_addDeed_L61_b (f_X2_addDeed_L61 m') _ _ _ M = _
    unfold f_X2_addDeed_L61_b
    rw [if_pos (nI_le (Nat.le_refl _) (by omega))]
  | r + 1, k, m, M, hk, hm, hz, hg => by
    obtain ⟨m', rfl⟩ : ∃ m', m = m' + 1 := ⟨m - 1, by omega⟩
    have h6 := hq.1
    have h3 := q3_lt hq hi
    have e1 : nI (ac q i k) ||| (if (q 3 i).testBit k = true then nI (mc q k) else 0) = nI (ac q i (k + 1)) := by
      show _ = nI (ac q i k ||| (if (q 3 i).testBit k = true then mc q k else 0))
      rw [← jor]
      split <;> rfl
    have e2 : (if b2 ((q 3 i).testBit k) = 0 then some (0 : Int32) else jg (jin (nI k) 6) (some (gi M 33 (nI k).toNatClampNeg))) = some (if (q 3 i).testBit k = true then nI (mc q k) else 0) := by
      rw [b2_if, jg_t (jin_nI (show k < 6 by omega) (by decide)), nI_clamp (show k < 2 ^ 31 by omega), hz k (by omega)]
      split <;> rfl
    obtain ⟨N, n1, n2, n3, n4⟩ := x_pdL hq hi r (k + 1) m' (si M 33 i (nI (ac q i (k + 1)))) (by omega) (by omega) (fun z hz' => by rw [gi_si, if_neg (by omega)]; exact hz z hz') (by rw [gi_si, if_pos ⟨rfl, rfl⟩])
    refine ⟨N, ?_, n2, fun a z ha => by rw [n3 a z ha, gi_si, if_neg ha], fun a z => n4 a z⟩
    show f_X2_addDeed_L61_b (f_X2_addDeed_L61 m') _ _ _ M = _
    unfold f_X2_addDeed_L61_b
    rw [if_neg (nI_ge (show k < i by omega) (by omega)), jg_t (jin_nI (show i < 6 by omega) (by decide)), x_isIn (by omega) (by omega), jb1_e, e2, jb1_e, jg_t (jin_nI (show i < 6 by omega) (by decide)), nI_clamp (show i < 2 ^ 31 by omega), hg, e1, jlet_e, jlet_e, nI_1, n1]
/-- the first i deeds of the plan -/
def hD (q : Nat → Nat → Nat) (i : Nat) (M : jM) : Prop := gi M 29 0 = nI i ∧ ∀ k, k < i → gi M 30 k = nI (q 1 k) ∧ gi M 31 k = nI (q 2 k) ∧ gi M 32 k = nI (q 3 k) ∧ gi M 33 k = nI (mc q k)
def hH (q : Nat → Nat → Nat) (i : Nat) (M : jM) : Prop := gi M 29 1 = nI i ∧ ∀ k, k < i → gi M 34 k = nI (q 4 k) ∧ gi M 35 k = nI (q 5 k) ∧ gi M 36 k = nI (q 6 k)
def st3 (M N : jM) : Prop := (∀ j, j ≠ 3 → stX j M N)
theorem st3_tr {M N K : jM} (h1 : st3 M N) (h2 : st3 N K) : st3 M K := fun j hj => stX_tr (h1 j hj) (h2 j hj)
theorem st3_si {o k : Nat} {v : Int32} (h : rgX o = 3) : st3 M (si M o k v) := fun j hj => stX_si (fun w => hj (w.symm.trans h))
theorem st3_sl {o k : Nat} {v : Int64} (h : rgX o = 3) : st3 M (sl M o k v) := fun j hj => stX_sl (fun w => hj (w.symm.trans h))
theorem st3_g {N : jM} (h : st3 M N) {o k : Nat} (ho : rgX o = 6) : gi N o k = gi M o k := (h 6 (by decide) o k ho).1
theorem dX_st {N : jM} (h : st3 M N) (d : dX q M) : dX q N := by
  obtain ⟨d1, d2, d3, d4⟩ := d
  refine ⟨by rw [st3_g h rfl]; exact d1, by rw [st3_g h rfl]; exact d2, fun i hi => ?_, fun i hi => ?_⟩
  · rw [st3_g h rfl, st3_g h rfl, st3_g h rfl]; exact d3 i hi
  · rw [st3_g h rfl, st3_g h rfl, st3_g h rfl]; exact d4 i hi
theorem x_pD (hq : okP q) {i : Nat} (hi : i < q 0 0) (h : hD q i M) : ∃ N, f_X2_addDeed (nI (q 1 i)) (nI (q 2 i)) (nI (q 3 i)) M = some N ∧ hD q (i + 1) N ∧ gi N 29 1 = gi M 29 1 ∧ st3 M N := by
  have h6 := hq.1
  obtain ⟨d1, d2⟩ := h
  unfold f_X2_addDeed
  rw [d1, show (6 : Int32) = nI 6 from rfl, if_pos (nI_lt (show i < 6 by omega) (by decide))]
  simp only [jlet_e, nI_1, jg_t (jin_nI (show i < 6 by omega) (by decide)), nI_clamp (show i < 2 ^ 31 by omega)]
  obtain ⟨N, n1, n2, n3, n4⟩ := x_pdL hq hi i 0 jfu (si (si (si (si (si M 29 0 (nI (i + 1))) 30 i (nI (q 1 i))) 31 i (nI (q 2 i))) 32 i (nI (q 3 i))) 33 i (nI (q 3 i))) (by omega) (by unfold jfu; omega) (fun z hz => by
    have := (d2 z hz).2.2.2
    simp [gi_si, show ¬ z = i by omega, this]) (by simp [gi_si]; rfl)
  have n1 : f_X2_addDeed_L61 jfu (nI (q 3 i)) (nI i) 0 _ = _ := n1
  refine ⟨N, by rw [n1]; rfl, ⟨?_, fun k hk => ?_⟩, ?_, ?_⟩
  · rw [n3 _ _ (by omega)]; simp [gi_si]
  · by_cases e : k = i
    · subst e
      rw [n3 30 _ (by omega), n3 31 _ (by omega), n3 32 _ (by omega)]
      refine ⟨by simp [gi_si], by simp [gi_si], by simp [gi_si], n2⟩
    · have := d2 k (by omega)
      rw [n3 30 _ (by omega), n3 31 _ (by omega), n3 32 _ (by omega), n3 33 _ (by omega)]
      simp [gi_si, e, this]
  · rw [n3 _ _ (by omega)]; simp [gi_si]
  · refine st3_tr (st3_tr (st3_tr (st3_tr (st3_tr (st3_si rfl) (st3_si rfl)) (st3_si rfl)) (st3_si rfl)) (st3_si rfl)) (fun j hj a k ha => ⟨n3 a k (fun w => hj (by rw [← ha, w.1]; rfl)), n4 a k⟩)
theorem x_pH (hq : okP q) {i : Nat} (hi : i < q 0 1) (h : hH q i M) {d : Nat} (hd : hD q d M) : ∃ N, f_X2_addHour (nI (q 4 i)) (nI (q 5 i)) (nI (q 6 i)) M = some N ∧ hH q (i + 1) N ∧ hD q d N ∧ st3 M N := by
  have h7 := hq.2.1
  obtain ⟨d1, d2⟩ := h
  unfold f_X2_addHour
  have s1 : ∀ (o k : Nat) (v : Int32) (M : jM), o ≠ 29 → gi (si M o k v) 29 1 = gi M 29 1 := fun o k v M ho => by rw [gi_si, if_neg (fun w => ho w.1.symm)]
  have e1 : ∀ k v (M : jM), gi (si M 34 k v) 29 1 = gi M 29 1 := fun k v M => s1 34 k v M (by decide)
  have e2 : ∀ k v (M : jM), gi (si M 35 k v) 29 1 = gi M 29 1 := fun k v M => s1 35 k v M (by decide)
  have e3 : ∀ k v (M : jM), gi (si M 36 k v) 29 1 = gi M 29 1 := fun k v M => s1 36 k v M (by decide)
  rw [d1, show (7 : Int32) = nI 7 from rfl, if_pos (nI_lt (show i < 7 by omega) (by decide))]
  simp only [jlet_e, e1, e2, e3, d1, nI_1, jg_t (jin_nI (show i < 7 by omega) (by decide)), nI_clamp (show i < 2 ^ 31 by omega)]
  refine ⟨_, rfl, ⟨by simp [gi_si], fun k hk => ?_⟩, ⟨by simp [gi_si, hd.1], fun k hk => ?_⟩, st3_tr (st3_tr (st3_tr (st3_si rfl) (st3_si rfl)) (st3_si rfl)) (st3_si rfl)⟩
  · by_cases e : k = i
    · subst e; simp [gi_si]
    · have := d2 k (by omega)
      simp [gi_si, e, this]
  · have := hd.2 k hk
    simp [gi_si, this]
theorem x_b6 (hq : okP q) : ∀ (r i m : Nat) (M : jM), i + r = q 0 0 → r < m → dX q M → hD q i M → ∃ N, f_X2_becomed_L6 m (nI i) M = some (nI (q 0 0), N) ∧ hD q (q 0 0) N ∧ gi N 29 1 = gi M 29 1 ∧ st3 M N
  | 0, i, m, M, hr, hm, hd, h => by
    obtain ⟨m', rfl⟩ : ∃ m', m = m' + 1 := ⟨m - 1, by omega⟩
    have h6 := hq.1
    have e : i = q 0 0 := by omega
    subst e
    refine ⟨M, ?_, h, rfl, fun _ _ => stX_rf⟩
    show f_X2_becomed_L6_b (f_X2_becomed_L6 m') _ M = _
    unfold f_X2_becomed_L6_b
    rw [hd.1, if_pos (nI_le (Nat.le_refl _) (by omega))]
  | r + 1, i, m, M, hr, hm, hd, h => by
    obtain ⟨m', rfl⟩ : ∃ m', m = m' + 1 := ⟨m - 1, by omega⟩
    have h6 := hq.1
    obtain ⟨N, n1, n2, n3, n4⟩ := x_pD hq (show i < q 0 0 by omega) h
    obtain ⟨K, k1, k2, k3, k4⟩ := x_b6 hq r (i + 1) m' N (by omega) (by omega) (dX_st n4 hd) n2
    have o := hd.2.2.1 i (by omega)
    refine ⟨K, ?_, k2, k3.trans n3, st3_tr n4 k4⟩
    show f_X2_becomed_L6_b (f_X2_becomed_L6 m') _ M = _
    unfold f_X2_becomed_L6_b
    rw [hd.1, if_neg (nI_ge (show i < q 0 0 by omega) (by omega)), jg_t (jin_nI (show i < 6 by omega) (by decide)), jg_t (jin_nI (show i < 6 by omega) (by decide)), jg_t (jin_nI (show i < 6 by omega) (by decide)), nI_clamp (show i < 2 ^ 31 by omega), o.1, o.2.1, o.2.2, n1, jb1_e, jlet_e, nI_1, k1]
theorem x_b44 (hq : okP q) {d : Nat} : ∀ (r i m : Nat) (M : jM), i + r = q 0 1 → r < m → dX q M → hH q i M → hD q d M → ∃ N, f_X2_becomed_L44 m (nI i) M = some (nI (q 0 1), N) ∧ hH q (q 0 1) N ∧ hD q d N ∧ st3 M N
  | 0, i, m, M, hr, hm, hd, h, hD' => by
    obtain ⟨m', rfl⟩ : ∃ m', m = m' + 1 := ⟨m - 1, by omega⟩
    have h7 := hq.2.1
    have e : i = q 0 1 := by omega
    subst e
    refine ⟨M, ?_, h, hD', fun _ _ => stX_rf⟩
    show f_X2_becomed_L44_b (f_X2_becomed_L44 m') _ M = _
    unfold f_X2_becomed_L44_b
    rw [hd.2.1, if_pos (nI_le (Nat.le_refl _) (by omega))]
  | r + 1, i, m, M, hr, hm, hd, h, hD' => by
    obtain ⟨m', rfl⟩ : ∃ m', m = m' + 1 := ⟨m - 1, by omega⟩
    have h7 := hq.2.1
    obtain ⟨N, n1, n2, n3, n4⟩ := x_pH hq (show i < q 0 1 by omega) h hD'
    obtain ⟨K, k1, k2, k3, k4⟩ := x_b44 hq r (i + 1) m' N (by omega) (by omega) (dX_st n4 hd) n2 n3
    have o := hd.2.2.2 i (by omega)
    refine ⟨K, ?_, k2, k3, st3_tr n4 k4⟩
    show f_X2_becomed_L44_b (f_X2_becomed_L44 m') _ M = _
    unfold f_X2_becomed_L44_b
    rw [hd.2.1, if_neg (nI_ge (show i < q 0 1 by omega) (by omega)), jg_t (jin_nI (show i < 7 by omega) (by decide)), jg_t (jin_nI (show i < 7 by omega) (by decide)), jg_t (jin_nI (show i < 7 by omega) (by decide)), nI_clamp (show i < 2 ^ 31 by omega), o.1, o.2.1, o.2.2, n1, jb1_e, jlet_e, nI_1, k1]
/-- the plan but for what is worked out of it -/
def ovr (q : Nat → Nat → Nat) (M : jM) : jM := (fun a k => if a = 38 then nI (sui q k) else M.1 a k, fun a k => if a = 37 then lN (rdy q k) else M.2 a k)
theorem ovr_ok (hd : hD q (q 0 0) M) (hh : hH q (q 0 1) M) : hX q (ovr q M) := ⟨hd.1, hh.1, fun i hi => ⟨(hd.2 i hi).1, (hd.2 i hi).2.1, (hd.2 i hi).2.2.1, (hd.2 i hi).2.2.2, rfl, rfl⟩, hh.2⟩
theorem lor (a b : Nat) : lN a ||| lN b = lN (a ||| b) := Int64.toBitVec_inj.mp (BitVec.ofNat_or ..).symm
theorem one_shl64 : ∀ p, p < 64 → (1 : Int64) <<< ((nI p).toInt64 &&& 63) = lN (2 ^ p) := by decide +kernel
theorem lbor {f : Nat → Bool} {k : Nat} : lN (bts f k) ||| (if f k = true then lN (2 ^ k) else 0) = lN (bts f (k + 1)) := by
  have hl := bts_lt f k
  show _ = lN (bts f k + (if f k = true then 2 ^ k else 0))
  by_cases c : f k = true
  · have e := Nat.two_pow_add_eq_or_of_lt hl 1
    rw [Nat.mul_one] at e
    rw [if_pos c, if_pos c, lor, Nat.add_comm, e, Nat.or_comm]
  · rw [if_neg c, if_neg c, show (0 : Int64) = lN 0 from rfl, lor, Nat.or_zero, Nat.add_zero]
theorem x_srf (hq : okP q) (hd : hD q (q 0 0) M) (hh : hH q (q 0 1) M) {i : Nat} (hi : i < q 0 0) : f_X2_setsReadyFor (nI i) M = some (lN (rdy q i)) := by
  have h6 := hq.1
  have h3 := q3_lt hq hi
  have hx := ovr_ok hd hh
  have hl : f_X2_setsReadyFor_L5 jfu (nI i) 0 0 M = some (lN (rdy q i), nI 64) := by
    refine jloop0 (L := fun m (s : Int64 × Int32) => f_X2_setsReadyFor_L5 m (nI i) s.1 s.2 M) (S := fun k => (lN (bts (fun s => !(s.testBit i) && (decide (dif (q 3 i) s = 0) && com q i s)) k), nI k)) (n := 64) (by decide) ?_ ?_
    · intro m k hk
      show f_X2_setsReadyFor_L5_b (f_X2_setsReadyFor_L5 m) (nI i) _ (nI k) M = f_X2_setsReadyFor_L5 m (nI i) _ (nI (k + 1)) M
      have hc : f_X2_hasCompany (nI i) (nI k) M = some (b2 (com q i k)) := x_hasCom (M := ovr q M) hq hx hi (by omega)
      have hdl := dif_lt (a := q 3 i) (b := k) (by omega)
      have e1 : (if b2 (k.testBit i) = 0 then jg (jin (nI i) 6) (if gi M 32 (nI i).toNatClampNeg &&& (nI k ^^^ -1) = 0 then jb1 (f_X2_hasCompany (nI i) (nI k) M) fun r16 => if r16 = 0 then some 0 else some 1 else some 0) else some (0 : Int32)) = some (b2 (!(k.testBit i) && (decide (dif (q 3 i) k = 0) && com q i k))) := by
        rw [b2_if, jg_t (jin_nI (show i < 6 by omega) (by decide)), nI_clamp (show i < 2 ^ 31 by omega), (hd.2 i hi).2.2.1, jdif (by omega) (by omega), hc, jb1_e, b2_if, jb2s, jzn (by omega)]
        cases k.testBit i with
        | true => rfl
        | false =>
          rw [if_neg Bool.false_ne_true]
          cases decide (dif (q 3 i) k = 0) with
          | true => rfl
          | false => rfl
      unfold f_X2_setsReadyFor_L5_b
      rw [if_neg (show ¬ (64 : Int32) ≤ nI k from nI_ge (b := 64) hk (by decide)), x_isIn (by omega) (by omega), jb1_e, e1, jb1_e, jlet_e, jlet_e, jlet_e, nI_1, b2_if, one_shl64 k hk, lbor]
    · intro m; rfl
  unfold f_X2_setsReadyFor
  rw [hl]; rfl
theorem x_hsu (hq : okP q) (hd : hD q (q 0 0) M) (hh : hH q (q 0 1) M) {i : Nat} (hi : i < q 0 0) : f_X2_hoursSuiting (nI i) M = some (nI (sui q i)) := by
  have h6 := hq.1
  have h7 := hq.2.1
  have hx := ovr_ok hd hh
  have hl : f_X2_hoursSuiting_L4 jfu (nI i) 0 0 M = some (nI (sui q i), nI (q 0 1)) := by
    refine jloop0 (L := fun m (s : Int32 × Int32) => f_X2_hoursSuiting_L4 m (nI i) s.1 s.2 M) (S := fun k => (nI (bts (fun h => lit q i h && tim q i h) k), nI k)) (n := q 0 1) (by unfold jfu; omega) ?_ ?_
    · intro m k hk
      show f_X2_hoursSuiting_L4_b (f_X2_hoursSuiting_L4 m) (nI i) _ (nI k) M = f_X2_hoursSuiting_L4 m (nI i) _ (nI (k + 1)) M
      have c1 : f_X2_hasLight (nI i) (nI k) M = some (b2 (lit q i k)) := x_light (M := ovr q M) hq hx hi hk
      have c2 : f_X2_isTimeOf (nI i) (nI k) M = some (b2 (tim q i k)) := x_time (M := ovr q M) hq hx hi hk
      have e1 : (if b2 (lit q i k) = 0 then some (0 : Int32) else jb1 (f_X2_isTimeOf (nI i) (nI k) M) fun r12 => if r12 = 0 then some 0 else some ((1 : Int32) <<< (nI k &&& 31))) = some (if (lit q i k && tim q i k) = true then nI (2 ^ k) else 0) := by
        rw [c2, jb1_e, b2_if, b2_if, jshl k (by omega)]
        cases lit q i k <;> cases tim q i k <;> rfl
      unfold f_X2_hoursSuiting_L4_b
      rw [hh.1, if_neg (nI_ge hk (by omega)), c1, jb1_e, e1, jb1_e, jlet_e, jlet_e, nI_1, jacc rfl]
    · intro m
      show f_X2_hoursSuiting_L4_b (f_X2_hoursSuiting_L4 m) _ _ (nI (q 0 1)) M = _
      unfold f_X2_hoursSuiting_L4_b
      rw [hh.1, if_pos (nI_le (Nat.le_refl _) (by omega))]
      rfl
  unfold f_X2_hoursSuiting
  rw [hl]; rfl
theorem x_b82 (hq : okP q) : ∀ (r i m : Nat) (M : jM), i + r = q 0 0 → r < m → hD q (q 0 0) M → hH q (q 0 1) M → (∀ k, k < i → gl M 37 k = lN (rdy q k) ∧ gi M 38 k = nI (sui q k)) → ∃ N, f_X2_becomed_L82 m (nI i) M = some (nI (q 0 0), N) ∧ hX q N ∧ st3 M N
  | 0, i, m, M, hr, hm, hd, hh, h => by
    obtain ⟨m', rfl⟩ : ∃ m', m = m' + 1 := ⟨m - 1, by omega⟩
    have h6 := hq.1
    have e : i = q 0 0 := by omega
    subst e
    refine ⟨M, ?_, ⟨hd.1, hh.1, fun i hi => ⟨(hd.2 i hi).1, (hd.2 i hi).2.1, (hd.2 i hi).2.2.1, (hd.2 i hi).2.2.2, (h i hi).1, (h i hi).2⟩, hh.2⟩, fun _ _ => stX_rf⟩
    show f_X2_becomed_L82_b (f_X2_becomed_L82 m') _ M = _
    unfold f_X2_becomed_L82_b
    rw [hd.1, if_pos (nI_le (Nat.le_refl _) (by omega))]
  | r + 1, i, m, M, hr, hm, hd, hh, h => by
    obtain ⟨m', rfl⟩ : ∃ m', m = m' + 1 := ⟨m - 1, by omega⟩
    have h6 := hq.1
    have hd1 : hD q (q 0 0) (sl M 37 i (lN (rdy q i))) := hd
    have hh1 : hH q (q 0 1) (sl M 37 i (lN (rdy q i))) := hh
    have g38 : ∀ a k, a ≠ 38 → gi (si (sl M 37 i (lN (rdy q i))) 38 i (nI (sui q i))) a k = gi M a k := fun a k ha => by rw [gi_si, if_neg (fun w => ha w.1)]; rfl
    have hd2 : hD q (q 0 0) (si (sl M 37 i (lN (rdy q i))) 38 i (nI (sui q i))) := ⟨by rw [g38 _ _ (by decide)]; exact hd.1, fun k hk => by rw [g38 _ _ (by decide), g38 _ _ (by decide), g38 _ _ (by decide), g38 _ _ (by decide)]; exact hd.2 k hk⟩
    have hh2 : hH q (q 0 1) (si (sl M 37 i (lN (rdy q i))) 38 i (nI (sui q i))) := ⟨by rw [g38 _ _ (by decide)]; exact hh.1, fun k hk => by rw [g38 _ _ (by decide), g38 _ _ (by decide), g38 _ _ (by decide)]; exact hh.2 k hk⟩
    obtain ⟨N, n1, n2, n3⟩ := x_b82 hq r (i + 1) m' (si (sl M 37 i (lN (rdy q i))) 38 i (nI (sui q i))) (by omega) (by omega) hd2 hh2 (fun k hk => by
      have e1 : gl (si (sl M 37 i (lN (rdy q i))) 38 i (nI (sui q i))) 37 k = gl (sl M 37 i (lN (rdy q i))) 37 k := rfl
      have e2 : gi (sl M 37 i (lN (rdy q i))) 38 k = gi M 38 k := rfl
      rw [e1, gl_sl, gi_si, e2]
      by_cases e : k = i
      · subst e; rw [if_pos ⟨rfl, rfl⟩, if_pos ⟨rfl, rfl⟩]; exact ⟨rfl, rfl⟩
      · rw [if_neg (fun w => e w.2), if_neg (fun w => e w.2)]; exact h k (by omega))
    refine ⟨N, ?_, n2, st3_tr (st3_tr (st3_sl rfl) (st3_si rfl)) n3⟩
    show f_X2_becomed_L82_b (f_X2_becomed_L82 m') _ M = _
    unfold f_X2_becomed_L82_b
    rw [hd.1, if_neg (nI_ge (show i < q 0 0 by omega) (by omega)), x_srf hq hd hh (by omega), jb1_e, jg_t (jin_nI (show i < 6 by omega) (by decide)), nI_clamp (show i < 2 ^ 31 by omega), jlet_e, x_hsu hq hd1 hh1 (by omega), jb1_e, jg_t (jin_nI (show i < 6 by omega) (by decide)), jlet_e, jlet_e, nI_1, n1]
theorem x_bec (hq : okP q) (hd : dX q M) : ∃ N, f_X2_becomed M = some N ∧ hX q N ∧ st3 M N := by
  have h6 := hq.1
  have h7 := hq.2.1
  have s0 : st3 M (si (si M 29 0 0) 29 1 0) := st3_tr (st3_si rfl) (st3_si rfl)
  obtain ⟨A, a1, a2, a3, a4⟩ := x_b6 hq (q 0 0) 0 jfu (si (si M 29 0 0) 29 1 0) (by omega) (by unfold jfu; omega) (dX_st s0 hd) ⟨by simp [gi_si]; rfl, fun k hk => absurd hk (Nat.not_lt_zero _)⟩
  have a1 : f_X2_becomed_L6 jfu 0 _ = _ := a1
  obtain ⟨B, b1, b2, b3, b4⟩ := x_b44 hq (q 0 1) 0 jfu A (by omega) (by unfold jfu; omega) (dX_st a4 (dX_st s0 hd)) ⟨by rw [a3]; simp [gi_si]; rfl, fun k hk => absurd hk (Nat.not_lt_zero _)⟩ a2
  have b1 : f_X2_becomed_L44 jfu 0 A = _ := b1
  obtain ⟨C, c1, c2, c3⟩ := x_b82 hq (q 0 0) 0 jfu B (by omega) (by unfold jfu; omega) b3 b2 (fun k hk => absurd hk (Nat.not_lt_zero _))
  have c1 : f_X2_becomed_L82 jfu 0 B = _ := c1
  refine ⟨C, ?_, c2, st3_tr s0 (st3_tr a4 (st3_tr b4 c3))⟩
  unfold f_X2_becomed f_X2_clear
  rw [jlet_e, jlet_e, jb1_e, a1, jb2_e, b1, jb2_e, c1]; rfl
/-! the reference takes it over -/
def sM3 (M N : jM) : Prop := (∀ j, j ≠ 3 → stM j M N)
theorem sM3_tr {M N K : jM} (h1 : sM3 M N) (h2 : sM3 N K) : sM3 M K := fun j hj => stM_tr (h1 j hj) (h2 j hj)
theorem sM3_si {o k : Nat} {v : Int32} (h : rgM o k = 3) : sM3 M (si M o k v) := fun j hj => stM_si (fun w => hj (w.symm.trans h))
theorem m_h53 (hq : okP q) : ∀ (r i m : Nat) (M : jM), i + r = q 0 0 → r < m → gi M 0 7 = nI (q 0 0) → dM q M → (∀ k, k < i → gi M 5 k = nI (q 1 k) ∧ gi M 6 k = nI (q 2 k) ∧ gi M 7 k = nI (q 3 k)) → ∃ N, f_X6_house_L53 m (nI i) M = some (nI (q 0 0), N) ∧ (∀ k, k < q 0 0 → gi N 5 k = nI (q 1 k) ∧ gi N 6 k = nI (q 2 k) ∧ gi N 7 k = nI (q 3 k)) ∧ dM q N ∧ gi N 0 7 = gi M 0 7 ∧ gi N 0 11 = gi M 0 11 ∧ sM3 M N
  | 0, i, m, M, hr, hm, h0, hd, h => by
    obtain ⟨m', rfl⟩ : ∃ m', m = m' + 1 := ⟨m - 1, by omega⟩
    have h6 := hq.1
    have e : i = q 0 0 := by omega
    subst e
    refine ⟨M, ?_, h, hd, rfl, rfl, fun _ _ => stM_rf⟩
    show f_X6_house_L53_b (f_X6_house_L53 m') _ M = _
    unfold f_X6_house_L53_b
    rw [h0, if_pos (nI_le (Nat.le_refl _) (by omega))]
  | r + 1, i, m, M, hr, hm, h0, hd, h => by
    obtain ⟨m', rfl⟩ : ∃ m', m = m' + 1 := ⟨m - 1, by omega⟩
    have h6 := hq.1
    have o := hd.2.2.1 i (by omega)
    have g : ∀ a k, a ≠ 5 → a ≠ 6 → a ≠ 7 → gi (si (si (si M 5 i (nI (q 1 i))) 6 i (nI (q 2 i))) 7 i (nI (q 3 i))) a k = gi M a k := fun a k a1 a2 a3 => by rw [gi_si, if_neg (fun w => a3 w.1), gi_si, if_neg (fun w => a2 w.1), gi_si, if_neg (fun w => a1 w.1)]
    have hd2 : dM q (si (si (si M 5 i (nI (q 1 i))) 6 i (nI (q 2 i))) 7 i (nI (q 3 i))) := by
      refine ⟨by rw [g _ _ (by decide) (by decide) (by decide)]; exact hd.1, by rw [g _ _ (by decide) (by decide) (by decide)]; exact hd.2.1, fun k hk => ?_, fun k hk => ?_⟩
      · rw [g _ _ (by decide) (by decide) (by decide), g _ _ (by decide) (by decide) (by decide), g _ _ (by decide) (by decide) (by decide)]; exact hd.2.2.1 k hk
      · rw [g _ _ (by decide) (by decide) (by decide), g _ _ (by decide) (by decide) (by decide), g _ _ (by decide) (by decide) (by decide)]; exact hd.2.2.2 k hk
    obtain ⟨N, n1, n2, n3, n4, n5, n6⟩ := m_h53 hq r (i + 1) m' _ (by omega) (by omega) (by rw [g _ _ (by decide) (by decide) (by decide)]; exact h0) hd2 (fun k hk => by
      by_cases e : k = i
      · subst e; simp [gi_si]
      · have := h k (by omega)
        simp [gi_si, e, this])
    refine ⟨N, ?_, n2, n3, by rw [n4, g _ _ (by decide) (by decide) (by decide)], by rw [n5, g _ _ (by decide) (by decide) (by decide)], sM3_tr (sM3_tr (sM3_tr (sM3_si rfl) (sM3_si rfl)) (sM3_si rfl)) n6⟩
    show f_X6_house_L53_b (f_X6_house_L53 m') _ M = _
    unfold f_X6_house_L53_b
    have g5 : ∀ v z, gi (si M 5 i v) 16 z = gi M 16 z := fun v z => by rw [gi_si, if_neg (by omega)]
    have g6 : ∀ v w z, gi (si (si M 5 i v) 6 i w) 16 z = gi M 16 z := fun v w z => by rw [gi_si, if_neg (by omega), g5]
    rw [h0, if_neg (nI_ge (show i < q 0 0 by omega) (by omega))]
    simp only [e3k, nI_1, nI2, jlet_e, jg_t (jin_nI (show 3 * i < 18 by omega) (by decide)), jg_t (jin_nI (show 3 * i + 1 < 18 by omega) (by decide)), jg_t (jin_nI (show 3 * i + 2 < 18 by omega) (by decide)), jg_t (jin_nI (show i < 6 by omega) (by decide)), nI_clamp (show i < 2 ^ 31 by omega), nI_clamp (show 3 * i < 2 ^ 31 by omega), nI_clamp (show 3 * i + 1 < 2 ^ 31 by omega), nI_clamp (show 3 * i + 2 < 2 ^ 31 by omega), g6, g5, o.1, o.2.1, o.2.2]
    exact n1
theorem m_h115 (hq : okP q) : ∀ (r i m : Nat) (M : jM), i + r = q 0 1 → r < m → gi M 0 11 = nI (q 0 1) → dM q M → (∀ k, k < i → gi M 8 k = nI (q 4 k) ∧ gi M 9 k = nI (q 5 k) ∧ gi M 10 k = nI (q 6 k)) → ∃ N, f_X6_house_L115 m (nI i) M = some (nI (q 0 1), N) ∧ (∀ k, k < q 0 1 → gi N 8 k = nI (q 4 k) ∧ gi N 9 k = nI (q 5 k) ∧ gi N 10 k = nI (q 6 k)) ∧ (∀ a k, a ≠ 8 → a ≠ 9 → a ≠ 10 → gi N a k = gi M a k) ∧ sM3 M N
  | 0, i, m, M, hr, hm, h0, hd, h => by
    obtain ⟨m', rfl⟩ : ∃ m', m = m' + 1 := ⟨m - 1, by omega⟩
    have h7 := hq.2.1
    have e : i = q 0 1 := by omega
    subst e
    refine ⟨M, ?_, h, fun _ _ _ _ _ => rfl, fun _ _ => stM_rf⟩
    show f_X6_house_L115_b (f_X6_house_L115 m') _ M = _
    unfold f_X6_house_L115_b
    rw [h0, if_pos (nI_le (Nat.le_refl _) (by omega))]
  | r + 1, i, m, M, hr, hm, h0, hd, h => by
    obtain ⟨m', rfl⟩ : ∃ m', m = m' + 1 := ⟨m - 1, by omega⟩
    have h7 := hq.2.1
    have o := hd.2.2.2 i (by omega)
    have g : ∀ a k, a ≠ 8 → a ≠ 9 → a ≠ 10 → gi (si (si (si M 8 i (nI (q 4 i))) 9 i (nI (q 5 i))) 10 i (nI (q 6 i))) a k = gi M a k := fun a k a1 a2 a3 => by rw [gi_si, if_neg (fun w => a3 w.1), gi_si, if_neg (fun w => a2 w.1), gi_si, if_neg (fun w => a1 w.1)]
    have hd2 : dM q (si (si (si M 8 i (nI (q 4 i))) 9 i (nI (q 5 i))) 10 i (nI (q 6 i))) := by
      refine ⟨by rw [g _ _ (by decide) (by decide) (by decide)]; exact hd.1, by rw [g _ _ (by decide) (by decide) (by decide)]; exact hd.2.1, fun k hk => ?_, fun k hk => ?_⟩
      · rw [g _ _ (by decide) (by decide) (by decide), g _ _ (by decide) (by decide) (by decide), g _ _ (by decide) (by decide) (by decide)]; exact hd.2.2.1 k hk
      · rw [g _ _ (by decide) (by decide) (by decide), g _ _ (by decide) (by decide) (by decide), g _ _ (by decide) (by decide) (by decide)]; exact hd.2.2.2 k hk
    obtain ⟨N, n1, n2, n3, n6⟩ := m_h115 hq r (i + 1) m' _ (by omega) (by omega) (by rw [g _ _ (by decide) (by decide) (by decide)]; exact h0) hd2 (fun k hk => by
      by_cases e : k = i
      · subst e; simp [gi_si]
      · have := h k (by omega)
        simp [gi_si, e, this])
    refine ⟨N, ?_, n2, fun a k a1 a2 a3 => by rw [n3 a k a1 a2 a3, g a k a1 a2 a3], sM3_tr (sM3_tr (sM3_tr (sM3_si rfl) (sM3_si rfl)) (sM3_si rfl)) n6⟩
    show f_X6_house_L115_b (f_X6_house_L115 m') _ M = _
    unfold f_X6_house_L115_b
    have g5 : ∀ v z, gi (si M 8 i v) 17 z = gi M 17 z := fun v z => by rw [gi_si, if_neg (by omega)]
    have g6 : ∀ v w z, gi (si (si M 8 i v) 9 i w) 17 z = gi M 17 z := fun v w z => by rw [gi_si, if_neg (by omega), g5]
    rw [h0, if_neg (nI_ge (show i < q 0 1 by omega) (by omega))]
    simp only [e3k, nI_1, nI2, jlet_e, jg_t (jin_nI (show 3 * i < 21 by omega) (by decide)), jg_t (jin_nI (show 3 * i + 1 < 21 by omega) (by decide)), jg_t (jin_nI (show 3 * i + 2 < 21 by omega) (by decide)), jg_t (jin_nI (show i < 7 by omega) (by decide)), nI_clamp (show i < 2 ^ 31 by omega), nI_clamp (show 3 * i < 2 ^ 31 by omega), nI_clamp (show 3 * i + 1 < 2 ^ 31 by omega), nI_clamp (show 3 * i + 2 < 2 ^ 31 by omega), g6, g5, o.1, o.2.1, o.2.2]
    exact n1
theorem m_h181 : ∀ (r i m : Nat) (M : jM), i + r = 12 → r < m → ∃ N, f_X6_house_L181 m (nI i) M = some (nI 12, N) ∧ (∀ k, i ≤ k → k < 12 → gi N 12 k = enc k 0) ∧ (∀ k, k < i → gi N 12 k = gi M 12 k) ∧ (∀ a k, a ≠ 12 → gi N a k = gi M a k) ∧ ∀ a k, gl N a k = gl M a k
  | 0, i, m, M, hr, hm => by
    obtain ⟨m', rfl⟩ : ∃ m', m = m' + 1 := ⟨m - 1, by omega⟩
    have e : i = 12 := by omega
    subst e
    exact ⟨M, rfl, fun k h1 h2 => by omega, fun _ _ => rfl, fun _ _ _ => rfl, fun _ _ => rfl⟩
  | r + 1, i, m, M, hr, hm => by
    obtain ⟨m', rfl⟩ : ∃ m', m = m' + 1 := ⟨m - 1, by omega⟩
    have e1 : (if (5 : Int32) ≤ nI i then (-9 : Int32) else 0) = enc i 0 := by
      unfold enc
      by_cases w : i < 5
      · rw [if_pos w, if_neg (show ¬ (5 : Int32) ≤ nI i from nI_ge (b := 5) w (by decide))]; rfl
      · rw [if_neg w, if_pos (show (5 : Int32) ≤ nI i from nI_le (a := 5) (by omega) (by omega))]; rfl
    obtain ⟨N, n1, n2, n3, n4, n5⟩ := m_h181 r (i + 1) m' (si M 12 i (enc i 0)) (by omega) (by omega)
    refine ⟨N, ?_, fun k h1 h2 => ?_, fun k hk => ?_, fun a k ha => by rw [n4 a k ha, gi_si, if_neg (fun w => ha w.1)], fun a k => n5 a k⟩
    · show f_X6_house_L181_b (f_X6_house_L181 m') _ M = _
      unfold f_X6_house_L181_b
      rw [if_neg (show ¬ (12 : Int32) ≤ nI i from nI_ge (b := 12) (by omega) (by decide)), e1, jlet_e, jg_t (jin_nI (show i < 12 by omega) (by decide)), nI_clamp (show i < 2 ^ 31 by omega), jlet_e, jlet_e, nI_1, n1]
    · by_cases e : k = i
      · subst e; rw [n3 k (by omega), gi_si, if_pos ⟨rfl, rfl⟩]
      · exact n2 k (by omega) h2
    · rw [n3 k (by omega), gi_si, if_neg (by omega)]
theorem m_h217 : f_X6_house_L217 jfu 0 M = some (nI 3, si (si (si M 18 0 0) 18 1 0) 18 2 0) := by
  have st : ∀ (m k : Nat) (M : jM), k < 3 → f_X6_house_L217 (m + 1) (nI k) M = f_X6_house_L217 m (nI (k + 1)) (si M 18 k 0) := by
    intro m k M hk
    show f_X6_house_L217_b (f_X6_house_L217 m) (nI k) M = _
    unfold f_X6_house_L217_b
    rw [if_neg (show ¬ (3 : Int32) ≤ nI k from nI_ge (b := 3) hk (by decide)), jg_t (jin_nI hk (by decide)), nI_clamp (show k < 2 ^ 31 by omega), vnb0, jlet_e, jlet_e, nI_1]
  show f_X6_house_L217 (29996 + 1 + 1 + 1 + 1) (nI 0) M = _
  rw [st _ 0 _ (by decide), st _ 1 _ (by decide), st _ 2 _ (by decide)]
  rfl
theorem x_h72 : f_X5_house_L72 jfu 0 M = some (nI 3, si (si (si M 64 0 0) 64 1 0) 64 2 0) := by
  have st : ∀ (m k : Nat) (M : jM), k < 3 → f_X5_house_L72 (m + 1) (nI k) M = f_X5_house_L72 m (nI (k + 1)) (si M 64 k 0) := by
    intro m k M hk
    show f_X5_house_L72_b (f_X5_house_L72 m) (nI k) M = _
    unfold f_X5_house_L72_b
    rw [if_neg (show ¬ (3 : Int32) ≤ nI k from nI_ge (b := 3) hk (by decide)), jg_t (jin_nI hk (by decide)), nI_clamp (show k < 2 ^ 31 by omega), vnb0, jlet_e, jlet_e, nI_1]
  show f_X5_house_L72 (29996 + 1 + 1 + 1 + 1) (nI 0) M = _
  rw [st _ 0 _ (by decide), st _ 1 _ (by decide), st _ 2 _ (by decide)]
  rfl
/-- a course that begins -/
def c0 : Nat → Nat → Nat := fun a b => if a = 0 then (if b = 0 then 1 else if b = 1 then 2 else 4) else 0
theorem c0_ok : okC q c0 := ⟨Nat.zero_le _, fun k _ => by unfold c0; simp; split <;> (try split) <;> omega, fun s hs => absurd hs (Nat.not_lt_zero _)⟩
theorem c0_r : ∀ k, k < 3 → (jsI 0).getD (0 + (k - 0)) 0 = nI (c0 0 k) := by decide
theorem x_beg : ∃ N, f_X0_begin M = some N ∧ cX 39 q c0 N ∧ ∀ j, j ≠ 4 → stX j M N := by
  unfold f_X0_begin
  rw [jlet_e, x_rew, jb1_e]
  refine ⟨_, rfl, ⟨?_, fun j hj => ?_, fun k hk => ?_, fun s hs => absurd hs (Nat.not_lt_zero _), fun h hh => ?_⟩, fun j hj => ?_⟩
  · simp [gi_si]; rfl
  · show _ = nI 0
    rcases (show j = 0 ∨ j = 1 ∨ j = 2 ∨ j = 3 ∨ j = 4 by omega) with rfl | rfl | rfl | rfl | rfl <;> (simp [gi_si]; try rfl)
  · rw [gi_si, if_neg (by omega), gi_si, if_neg (by omega), gi_si, if_neg (by omega), gi_si, if_neg (by omega), gi_si, if_neg (by omega), gi_si, if_neg (by omega), gi_jff, if_neg (by omega), gi_jcp, if_pos ⟨rfl, by omega, by omega⟩]
    exact c0_r k hk
  · rw [gi_si, if_neg (by omega), gi_si, if_neg (by omega), gi_si, if_neg (by omega), gi_si, if_neg (by omega), gi_si, if_neg (by omega), gi_si, if_neg (by omega), gi_jff, if_pos ⟨rfl, by omega, hh⟩]
    rfl
  · exact stX_tr (stX_tr (stX_tr (stX_tr (stX_tr (stX_tr (stX_tr (stX_jcp (fun w => hj (w.symm.trans rfl))) (stX_jff (fun w => hj (w.symm.trans rfl)))) (stX_si (fun w => hj (w.symm.trans rfl)))) (stX_si (fun w => hj (w.symm.trans rfl)))) (stX_si (fun w => hj (w.symm.trans rfl)))) (stX_si (fun w => hj (w.symm.trans rfl)))) (stX_si (fun w => hj (w.symm.trans rfl)))) (stX_si (fun w => hj (w.symm.trans rfl)))
theorem s_house : kS_house (Rl Q1) := by
  intro a1 Mx Mm R
  unfold f_X5_house f_X6_house
  rcases jcase a1 4 (by decide) with b | ⟨t, ht, rfl⟩
  · rw [x_refb_bad b, m_isText_f b]
    exact ⟨-1, Mx, Mm, rfl, rfl, R⟩
  · obtain ⟨e1, e2, e3⟩ := R.2.2.1 t ht
    rw [m_isText_t ht, jb1_e, if_neg j10, jg_t (jin_nI ht (by decide)), nI_clamp (show t < 2 ^ 31 by omega), ← e1]
    rcases e2 with e2 | ⟨n, hn, e2⟩
    · rw [x_refb_no ht e2, e2, if_neg m1_neg, show (1 : Int32) = nI 1 from rfl, m_find (by decide)]
      exact ⟨-3, _, _, rfl, rfl, rl_find Q1_stay R (by decide)⟩
    · rw [x_refb_ok ht (by omega) e2, jb2_e, if_pos j00, jg_t (jin_nI ht (by decide)), e2, if_pos (nI_pos' (by omega))]
      obtain ⟨Nx, Nm, sx, sm, hc⟩ := rd_text R ht hn e2
      rcases hc with ⟨p', hp', f1, f2, f3⟩ | ⟨q, f1, f2, hq, hdx, hdm, hne⟩
      · rw [f1, f2, jb2_e, jb2_e, if_pos j00, if_neg (show ¬ nI p' = -9 from fun z => nI_pos (n := p') (by omega) (by rw [z]; decide)), jg_t (jin_nI ht (by decide))]
        exact ⟨-4, Nx, Nm, rfl, rfl, R_st R sx sm⟩
      · have h6 := hq.1
        have h7 := hq.2.1
        obtain ⟨A, a1, a2, a3⟩ := x_bec hq hdx
        obtain ⟨B, b1, b2, b3⟩ := x_beg (q := q) (M := A)
        rw [f1, f2, jb2_e, jb2_e, if_pos rfl, if_neg j10, a1, jb1_e, b1, jb1_e, x_h72, jb2_e, jg_t (jin_nI ht (by decide)), jlet_e, jlet_e, show gi (si Nm 0 7 (gi Nm 0 24)) 0 26 = gi Nm 0 26 from by rw [gi_si, if_neg (by omega)], hdm.1, hdm.2.1]
        have g0 : ∀ a k, a ≠ 0 → gi (si (si Nm 0 7 (nI (q 0 0))) 0 11 (nI (q 0 1))) a k = gi Nm a k := fun a k ha => by rw [gi_si, if_neg (fun w => ha w.1), gi_si, if_neg (fun w => ha w.1)]
        have hdm0 : dM q (si (si Nm 0 7 (nI (q 0 0))) 0 11 (nI (q 0 1))) := by
          refine ⟨by rw [gi_si, if_neg (by omega), gi_si, if_neg (by omega)]; exact hdm.1, by rw [gi_si, if_neg (by omega), gi_si, if_neg (by omega)]; exact hdm.2.1, fun k hk => ?_, fun k hk => ?_⟩
          · rw [g0 _ _ (by decide), g0 _ _ (by decide), g0 _ _ (by decide)]; exact hdm.2.2.1 k hk
          · rw [g0 _ _ (by decide), g0 _ _ (by decide), g0 _ _ (by decide)]; exact hdm.2.2.2 k hk
        obtain ⟨C, c1, c2, c3, c4, c5, c6⟩ := m_h53 hq (q 0 0) 0 jfu _ (by omega) (by unfold jfu; omega) (by rw [gi_si, if_neg (by omega), gi_si, if_pos ⟨rfl, rfl⟩]) hdm0 (fun k hk => absurd hk (Nat.not_lt_zero _))
        have c1 : f_X6_house_L53 jfu 0 _ = _ := c1
        have c7 : gi C 0 7 = nI (q 0 0) := by rw [c4, gi_si, if_neg (by omega), gi_si, if_pos ⟨rfl, rfl⟩]
        have c8 : gi C 0 11 = nI (q 0 1) := by rw [c5, gi_si, if_pos ⟨rfl, rfl⟩]
        obtain ⟨D, d1, d2, d3, d4⟩ := m_h115 hq (q 0 1) 0 jfu C (by omega) (by unfold jfu; omega) c8 c3 (fun k hk => absurd hk (Nat.not_lt_zero _))
        have d1 : f_X6_house_L115 jfu 0 C = _ := d1
        have nr : f_X6_newRoutes D = some (si (si (si D 11 0 1) 11 1 2) 11 2 4) := rfl
        obtain ⟨E, e1', e2', e3', e4', e5'⟩ := m_h181 12 0 jfu (si (si (si D 11 0 1) 11 1 2) 11 2 4) rfl (by decide)
        have e1' : f_X6_house_L181 jfu 0 _ = _ := e1'
        rw [c1, jb2_e, d1, jb2_e, nr, jb1_e, e1', jb2_e, jlet_e, m_h217, jb2_e]
        have gx : ∀ a k, a ≠ 64 → gi (si (si (si B 64 0 0) 64 1 0) 64 2 0) a k = gi B a k := fun a k ha => by rw [gi_si, if_neg (fun w => ha w.1), gi_si, if_neg (fun w => ha w.1), gi_si, if_neg (fun w => ha w.1)]
        have gm : ∀ a k, a ≠ 18 → gi (si (si (si (si E 0 15 0) 18 0 0) 18 1 0) 18 2 0) a k = gi (si E 0 15 0) a k := fun a k ha => by rw [gi_si, if_neg (fun w => ha w.1), gi_si, if_neg (fun w => ha w.1), gi_si, if_neg (fun w => ha w.1)]
        have gE : ∀ a k, a ≠ 12 → a ≠ 11 → gi E a k = gi D a k := fun a k h1 h2 => by rw [e4' a k h1, gi_si, if_neg (fun w => h2 w.1), gi_si, if_neg (fun w => h2 w.1), gi_si, if_neg (fun w => h2 w.1)]
        have hXA : hX q B := hX_st (b3 3 (by decide)) a2
        have s5 : ∀ j, j ≠ 5 → stX j B (si (si (si B 64 0 0) 64 1 0) 64 2 0) := fun j hj => stX_tr (stX_tr (stX_si (fun w => hj (w.symm.trans rfl))) (stX_si (fun w => hj (w.symm.trans rfl)))) (stX_si (fun w => hj (w.symm.trans rfl)))
        have z : ∀ (k : Nat) (hk : k < 3), gi (si (si (si B 64 0 0) 64 1 0) 64 2 0) 64 k = 0 ∧ gi (si (si (si (si E 0 15 0) 18 0 0) 18 1 0) 18 2 0) 18 k = 0 := fun k hk => by
          rcases (show k = 0 ∨ k = 1 ∨ k = 2 by omega) with rfl | rfl | rfl <;> simp [gi_si]
        have sA : ∀ j, j < 3 → stX j Mx (si (si (si B 64 0 0) 64 1 0) 64 2 0) := fun j hj => stX_tr (sx j (by omega)) (stX_tr (a3 j (by omega)) (stX_tr (b3 j (by omega)) (s5 j (by omega))))
        have sB : ∀ j, j < 3 → stM j Mm (si (si (si (si E 0 15 0) 18 0 0) 18 1 0) 18 2 0) := fun j hj => by
          refine stM_tr (sm j (by omega)) (stM_tr (stM_tr (stM_si (k := 7) (fun w => by have : (3 : Nat) = j := w; omega)) (stM_si (k := 11) (fun w => by have : (3 : Nat) = j := w; omega))) (stM_tr (c6 j (by omega)) (stM_tr (d4 j (by omega)) (stM_tr (N := E) ?_ ?_))))
          · intro a k ha
            have h12 : a ≠ 12 := fun w => by rw [w] at ha; have : (4 : Nat) = j := ha; omega
            have h11 : a ≠ 11 := fun w => by rw [w] at ha; have : (4 : Nat) = j := ha; omega
            exact ⟨gE a k h12 h11, e5' a k⟩
          · exact stM_tr (stM_tr (stM_tr (stM_si (k := 15) (fun w => by have : (4 : Nat) = j := w; omega)) (stM_si (o := 18) (k := 0) (fun w => by have : (5 : Nat) = j := w; omega))) (stM_si (o := 18) (k := 1) (fun w => by have : (5 : Nat) = j := w; omega))) (stM_si (o := 18) (k := 2) (fun w => by have : (5 : Nat) = j := w; omega))
        have eD : ∀ a k, a ≠ 8 → a ≠ 9 → a ≠ 10 → gi D a k = gi C a k := d3
        refine ⟨nI (q 0 0), _, _, ?_, ?_, rl_cour R sA sB ⟨q, c0, hq, ?_, ?_, c0_ok, ?_, ?_, fun k hk => Or.inl (z k hk)⟩⟩
        · rw [gx _ _ (by decide), hXA.1]
        · rw [gm _ _ (by decide), gi_si, if_neg (by omega), gE _ _ (by decide) (by decide), eD _ _ (by decide) (by decide) (by decide), c7]
        · exact hX_st (s5 3 (by decide)) hXA
        · refine ⟨?_, ?_, fun i hi => ?_, fun i hi => ?_⟩
          · rw [gm _ _ (by decide), gi_si, if_neg (by omega), gE _ _ (by decide) (by decide), eD _ _ (by decide) (by decide) (by decide), c7]
          · rw [gm _ _ (by decide), gi_si, if_neg (by omega), gE _ _ (by decide) (by decide), eD _ _ (by decide) (by decide) (by decide), c8]
          · have := c2 i hi
            rw [gm _ _ (by decide), gm _ _ (by decide), gm _ _ (by decide), gi_si, if_neg (by omega), gi_si, if_neg (by omega), gi_si, if_neg (by omega), gE _ _ (by decide) (by decide), gE _ _ (by decide) (by decide), gE _ _ (by decide) (by decide), eD _ _ (by decide) (by decide) (by decide), eD _ _ (by decide) (by decide) (by decide), eD _ _ (by decide) (by decide) (by decide)]
            exact this
          · have := d2 i hi
            rw [gm _ _ (by decide), gm _ _ (by decide), gm _ _ (by decide), gi_si, if_neg (by omega), gi_si, if_neg (by omega), gi_si, if_neg (by omega), gE _ _ (by decide) (by decide), gE _ _ (by decide) (by decide), gE _ _ (by decide) (by decide)]
            exact this
        · exact cX_st (s5 4 (by decide)) b2
        · refine ⟨?_, fun k hk => ?_, fun s hs => absurd hs (Nat.not_lt_zero _), fun k hk => ?_⟩
          · rw [gm _ _ (by decide), gi_si, if_pos ⟨rfl, rfl⟩]; rfl
          · intro _
            show gi _ 12 k = enc k 0
            rw [gm _ _ (by decide), gi_si, if_neg (by omega)]
            exact e2' k (Nat.zero_le _) hk
          · show gi _ 11 k = _
            rw [gm _ _ (by decide), gi_si, if_neg (by omega), e4' _ _ (by decide)]
            rcases (show k = 0 ∨ k = 1 ∨ k = 2 by omega) with rfl | rfl | rfl <;> (simp [gi_si]; try rfl)
end KE
