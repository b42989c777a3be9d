/-! the course: c 0 routes, c 1 0 steps, c 2 kinds of the steps, c 3 their hours, c 4 their deeds (0 none, i + 1) -/
def dI (v : Nat) : Int32 := if v = 0 then -9 else nI (v - 1)
def enc (k v : Nat) : Int32 := if k < 5 then nI v else dI v
/-- behind a step: v 0 day, v 1 opened, v 2 sent back, v 3 done, v 4 since a meal, v (5 + h) deed of an hour -/
def stp (q : Nat → Nat → Nat) (v : Nat → Nat) (k h d : Nat) : Nat → Nat := fun j => if k = 0 then (if j = 0 then v 0 + 1 else v j) else if k = 2 then (if j = 2 then v 2 ||| 2 ^ h else v j) else (if j = 1 then v 1 ||| 2 ^ h else if j = 3 then (if d = 0 then v 3 else v 3 ||| 2 ^ (d - 1)) else if j = 4 then (if d ≠ 0 ∧ isk (q 1 (d - 1)) 1 = true then 0 else v 4 + 1) else if j = 5 + h then d else v j)
def vec (q c : Nat → Nat → Nat) : Nat → Nat → Nat
  | 0 => fun _ => 0
  | s + 1 => stp q (vec q c s) (c 2 s) (c 3 s) (c 4 s)
def cmg (q c : Nat → Nat → Nat) (h : Nat) : Nat := q 5 h + c 0 (q 6 h)
def lgl (q c : Nat → Nat → Nat) (v : Nat → Nat) (k h d : Nat) : Prop := (k = 0 ∧ h = 0 ∧ d = 0) ∨ (h < q 0 1 ∧ (v 1).testBit h = false ∧ (v 2).testBit h = false ∧ cmg q c h ≤ v 0 ∧ (k = 2 ∧ d = 0 ∨ k = 1 ∧ d ≤ q 0 0))
def okC (q c : Nat → Nat → Nat) : Prop := c 1 0 ≤ 40 ∧ (∀ k, k < 3 → c 0 k ≤ 9) ∧ ∀ s, s < c 1 0 → lgl q c (vec q c s) (c 2 s) (c 3 s) (c 4 s)
def gdV (q c : Nat → Nat → Nat) (v : Nat → Nat) (s : Nat) : Prop := v 0 ≤ s ∧ v 4 ≤ s ∧ v 1 < 128 ∧ v 2 < 128 ∧ v 3 < 64 ∧ (∀ h, v (5 + h) ≤ q 0 0) ∧ (∀ h, ((v 1).testBit h || (v 2).testBit h) = true → h < q 0 1 ∧ cmg q c h ≤ v 0) ∧ ∀ h, (v 1).testBit h = false → v (5 + h) = 0
def cX (o : Nat) (q c : Nat → Nat → Nat) (M : jM) : Prop := gi M o 6 = nI (c 1 0) ∧ (∀ j, j < 5 → gi M o (7 + j) = nI (vec q c (c 1 0) j)) ∧ (∀ k, k < 3 → gi M (o + 1) k = nI (c 0 k)) ∧ (∀ s, s < c 1 0 → gi M (o + 2) s = nI (c 2 s) ∧ gi M (o + 3) s = (if c 2 s = 0 then -9 else nI (c 3 s)) ∧ gi M (o + 4) s = dI (c 4 s)) ∧ ∀ h, h < 7 → gi M (o + 5) h = dI (vec q c (c 1 0) (5 + h))
def cV (S A R : Nat → Int32) (n : Int32) (q c : Nat → Nat → Nat) : Prop := n = nI (c 1 0) ∧ (∀ k, k < 12 → k < 5 ∨ q 0 0 ≠ 0 → S k = enc k (vec q c (c 1 0) k)) ∧ (∀ s, s < c 1 0 → ∀ k, k < 12 → A (12 * s + k) = enc k (vec q c s k)) ∧ ∀ k, k < 3 → R k = nI (c 0 k)
def cM (q c : Nat → Nat → Nat) (M : jM) : Prop := cV (gi M 12) (gi M 13) (gi M 11) (gi M 0 15) q c
def cK (k : Nat) (q c : Nat → Nat → Nat) (M : jM) : Prop := cV (fun j => gi M 19 (496 * k + 480 + j)) (fun j => gi M 19 (496 * k + j)) (fun j => gi M 19 (496 * k + 492 + j)) (gi M 19 (496 * k + 495)) q c
def kp (q : Nat → Nat → Nat) (Mx Mm : jM) (k : Nat) : Prop := (gi Mx 64 k = 0 ∧ gi Mm 18 k = 0) ∨ (gi Mx 64 k = 1 ∧ gi Mm 18 k = 1 ∧ ∃ c, okC q c ∧ cX (46 + 6 * k) q c Mx ∧ cK k q c Mm)
def Q2 (q c : Nat → Nat → Nat) (Mx Mm : jM) : Prop := okP q ∧ hX q Mx ∧ hM q Mm ∧ okC q c ∧ cX 39 q c Mx ∧ cM q c Mm ∧ ∀ k, k < 3 → kp q Mx Mm k
def Q1 (Mx Mm : jM) : Prop := ∃ q c, Q2 q c Mx Mm
section JC
variable {q c : Nat → Nat → Nat} {M M' Mx Mm Mx' Mm' : jM}
theorem jor7 {a h : Nat} (ha : a < 128) (hh : h < 7) : a ||| 2 ^ h < 128 := Nat.or_lt_two_pow (n := 7) ha (Nat.pow_lt_pow_right (by decide) hh)
theorem jor6 {a h : Nat} (ha : a < 64) (hh : h < 6) : a ||| 2 ^ h < 64 := Nat.or_lt_two_pow (n := 6) ha (Nat.pow_lt_pow_right (by decide) hh)
theorem gd_stp (hq : okP q) {v : Nat → Nat} {s k h d : Nat} (g : gdV q c v s) (l : lgl q c v k h d) : gdV q c (stp q v k h d) (s + 1) := by
  obtain ⟨g0, g4, g1, g2, g3, g5, g6, g7⟩ := g
  rcases l with ⟨rfl, rfl, rfl⟩ | ⟨l1, l2, l3, l4, l5⟩
  · refine ⟨?_, ?_, g1, g2, g3, fun h => ?_, fun h hh => ?_, fun h hh => ?_⟩
    · show v 0 + 1 ≤ s + 1; omega
    · show v 4 ≤ s + 1; omega
    · show (if 5 + h = 0 then v 0 + 1 else v (5 + h)) ≤ _
      rw [if_neg (by omega)]; exact g5 h
    · have := g6 h hh
      exact ⟨this.1, Nat.le_succ_of_le this.2⟩
    · show (if 5 + h = 0 then v 0 + 1 else v (5 + h)) = 0
      rw [if_neg (by omega)]; exact g7 h hh
  · have h7 := hq.2.1
    have h6 := hq.1
    rcases l5 with ⟨rfl, rfl⟩ | ⟨rfl, l5⟩
    · refine ⟨?_, ?_, g1, jor7 g2 (by omega), g3, fun z => ?_, fun z hh => ?_, fun z hh => ?_⟩
      · show v 0 ≤ s + 1; omega
      · show v 4 ≤ s + 1; omega
      · show (if 5 + z = 2 then v 2 ||| 2 ^ h else v (5 + z)) ≤ _
        rw [if_neg (by omega)]; exact g5 z
      · have hh : ((v 1).testBit z || (v 2 ||| 2 ^ h).testBit z) = true := hh
        rw [Nat.testBit_or, Nat.testBit_two_pow] at hh
        by_cases e : h = z
        · subst e; exact ⟨l1, l4⟩
        · exact g6 z (by simpa [e] using hh)
      · show (if 5 + z = 2 then v 2 ||| 2 ^ h else v (5 + z)) = 0
        rw [if_neg (by omega)]; exact g7 z hh
    · have e5 : ∀ z, stp q v 1 h d (5 + z) = if z = h then d else v (5 + z) := fun z => by
        show (if 5 + z = 1 then v 1 ||| 2 ^ h else if 5 + z = 3 then _ else if 5 + z = 4 then _ else if 5 + z = 5 + h then d else v (5 + z)) = _
        rw [if_neg (by omega), if_neg (by omega), if_neg (by omega)]
        by_cases e : z = h
        · rw [if_pos e, if_pos (by omega)]
        · rw [if_neg e, if_neg (by omega)]
      have e0 : stp q v 1 h d 0 = v 0 := by
        show (if 0 = 5 + h then d else v 0) = v 0
        rw [if_neg (by omega)]
      have e2 : stp q v 1 h d 2 = v 2 := by
        show (if 2 = 5 + h then d else v 2) = v 2
        rw [if_neg (by omega)]
      unfold gdV
      rw [e0, e2]
      refine ⟨?_, ?_, jor7 g1 (by omega), g2, ?_, fun z => ?_, fun z hh => ?_, fun z hh => ?_⟩
      · show v 0 ≤ s + 1; omega
      · show (if d ≠ 0 ∧ isk (q 1 (d - 1)) 1 = true then 0 else v 4 + 1) ≤ s + 1
        by_cases e : d ≠ 0 ∧ isk (q 1 (d - 1)) 1 = true
        · rw [if_pos e]; omega
        · rw [if_neg e]; omega
      · show (if d = 0 then v 3 else v 3 ||| 2 ^ (d - 1)) < 64
        by_cases e : d = 0
        · rw [if_pos e]; exact g3
        · rw [if_neg e]; exact jor6 g3 (by omega)
      · rw [e5]
        by_cases e : z = h
        · rw [if_pos e]; exact l5
        · rw [if_neg e]; exact g5 z
      · have hh : ((v 1 ||| 2 ^ h).testBit z || (v 2).testBit z) = true := hh
        rw [Nat.testBit_or, Nat.testBit_two_pow] at hh
        by_cases e : h = z
        · subst e; exact ⟨l1, l4⟩
        · exact g6 z (by simpa [e] using hh)
      · have hh : (v 1 ||| 2 ^ h).testBit z = false := hh
        rw [Nat.testBit_or, Nat.testBit_two_pow] at hh
        by_cases e : h = z
        · subst e; simp at hh
        · rw [e5, if_neg (fun w => e w.symm)]
          exact g7 z (by simpa [e] using hh)
theorem gd_vec (hq : okP q) (hc : okC q c) : ∀ s, s ≤ c 1 0 → gdV q c (vec q c s) s
  | 0, _ => by
    refine ⟨Nat.le_refl _, Nat.le_refl _, (by decide : 0 < 128), (by decide : 0 < 128), (by decide : 0 < 64), fun _ => Nat.zero_le _, fun h hh => ?_, fun _ _ => rfl⟩
    have hh : ((0 : Nat).testBit h || (0 : Nat).testBit h) = true := hh
    simp at hh
  | s + 1, h => gd_stp hq (gd_vec hq hc s (by omega)) (hc.2.2 s (by omega))
theorem hX_st (hs : stX 3 M M') (h : hX q M) : hX q M' := by
  obtain ⟨h1, h2, h3, h4⟩ := h
  refine ⟨by rw [(hs 29 0 rfl).1]; exact h1, by rw [(hs 29 1 rfl).1]; exact h2, fun i hi => ?_, fun i hi => ?_⟩
  · rw [(hs 30 i rfl).1, (hs 31 i rfl).1, (hs 32 i rfl).1, (hs 33 i rfl).1, (hs 37 i rfl).2, (hs 38 i rfl).1]; exact h3 i hi
  · rw [(hs 34 i rfl).1, (hs 35 i rfl).1, (hs 36 i rfl).1]; exact h4 i hi
theorem hM_st (hs : stM 3 M M') (h : hM q M) : hM q M' := by
  obtain ⟨h1, h2, h3, h4⟩ := h
  refine ⟨by rw [(hs 0 7 rfl).1]; exact h1, by rw [(hs 0 11 rfl).1]; exact h2, fun i hi => ?_, fun i hi => ?_⟩
  · rw [(hs 5 i rfl).1, (hs 6 i rfl).1, (hs 7 i rfl).1]; exact h3 i hi
  · rw [(hs 8 i rfl).1, (hs 9 i rfl).1, (hs 10 i rfl).1]; exact h4 i hi
theorem cX_eq {o : Nat} (hs : ∀ j k, j < 6 → gi M' (o + j) k = gi M (o + j) k) (h : cX o q c M) : cX o q c M' := by
  obtain ⟨h1, h2, h3, h4, h5⟩ := h
  have e0 : ∀ k, gi M' o k = gi M o k := fun k => hs 0 k (by decide)
  refine ⟨by rw [e0]; exact h1, fun j hj => by rw [e0]; exact h2 j hj, fun k hk => by rw [hs 1 k (by decide)]; exact h3 k hk, fun s hs' => ?_, fun k hk => by rw [hs 5 k (by decide)]; exact h5 k hk⟩
  rw [hs 2 s (by decide), hs 3 s (by decide), hs 4 s (by decide)]; exact h4 s hs'
theorem rg39 : ∀ j, j < 6 → rgX (39 + j) = 4 := by decide
theorem rg46 : ∀ k, k < 3 → ∀ j, j < 6 → rgX (46 + 6 * k + j) = 5 := by decide
theorem cX_st (hs : stX 4 M M') (h : cX 39 q c M) : cX 39 q c M' := cX_eq (fun j k hj => (hs _ k (rg39 j hj)).1) h
theorem cXk_st {k : Nat} (hk : k < 3) (hs : stX 5 M M') (h : cX (46 + 6 * k) q c M) : cX (46 + 6 * k) q c M' := cX_eq (fun j z hj => (hs _ z (rg46 k hk j hj)).1) h
theorem cM_st (hs : stM 4 M M') (h : cM q c M) : cM q c M' := by
  obtain ⟨h1, h2, h3, h4⟩ := h
  exact ⟨by rw [(hs 0 15 rfl).1]; exact h1, fun k hk => by rw [(hs 12 k rfl).1]; exact h2 k hk, fun s hs' k hk => by rw [(hs 13 _ rfl).1]; exact h3 s hs' k hk, fun k hk => by rw [(hs 11 k rfl).1]; exact h4 k hk⟩
theorem cK_st {k : Nat} (hs : stM 5 M M') (h : cK k q c M) : cK k q c M' := by
  obtain ⟨h1, h2, h3, h4⟩ := h
  exact ⟨by rw [(hs 19 _ rfl).1]; exact h1, fun j hj hv => by show gi M' 19 _ = _; rw [(hs 19 _ rfl).1]; exact h2 j hj hv, fun s hs' j hj => by show gi M' 19 _ = _; rw [(hs 19 _ rfl).1]; exact h3 s hs' j hj, fun j hj => by show gi M' 19 _ = _; rw [(hs 19 _ rfl).1]; exact h4 j hj⟩
theorem kp_st (hx : stX 5 Mx Mx') (hm : stM 5 Mm Mm') {k : Nat} (hk : k < 3) (h : kp q Mx Mm k) : kp q Mx' Mm' k := by
  unfold kp
  rw [(hx 64 k rfl).1, (hm 18 k rfl).1]
  rcases h with h | ⟨h1, h2, d, h3, h4, h5⟩
  · exact Or.inl h
  · exact Or.inr ⟨h1, h2, d, h3, cXk_st hk hx h4, cK_st hm h5⟩
theorem Q2_st (h3 : stX 3 Mx Mx') (h4 : stX 4 Mx Mx') (h5 : stX 5 Mx Mx') (m3 : stM 3 Mm Mm') (m4 : stM 4 Mm Mm') (m5 : stM 5 Mm Mm') (h : Q2 q c Mx Mm) : Q2 q c Mx' Mm' := ⟨h.1, hX_st h3 h.2.1, hM_st m3 h.2.2.1, h.2.2.2.1, cX_st h4 h.2.2.2.2.1, cM_st m4 h.2.2.2.2.2.1, fun k hk => kp_st h5 m5 hk (h.2.2.2.2.2.2 k hk)⟩
theorem Q1_stay : jStay Q1 := fun Mx Mx' Mm Mm' hs h => by
  obtain ⟨q, c, h⟩ := h
  have a3 := hs 3 (Or.inl rfl)
  have a4 := hs 4 (Or.inr (Or.inl rfl))
  have a5 := hs 5 (Or.inr (Or.inr rfl))
  exact ⟨q, c, Q2_st a3.1 a4.1 a5.1 a3.2 a4.2 a5.2 h⟩
end JC
