/-! reading a text: hours, deeds, items -/
def OC (t n p : Nat) (Mx0 Mm0 : jM) (X Y : Option (Int32 × jM)) : Prop := (∃ p' q' Nx Nm, p < p' ∧ X = some (1, Nx) ∧ Y = some (1, Nm) ∧ SR t n p' q' Mx0 Mm0 Nx Nm) ∨ (∃ p' q' Nx Nm, X = some (0, Nx) ∧ Y = some (0, Nm) ∧ SR t n p' q' Mx0 Mm0 Nx Nm)
section KD
variable {q : Nat → Nat → Nat} {t n p : Nat} {Mx0 Mm0 Mx Mm M : jM}
theorem n09 : ¬ (0 : Int32) ≤ -9 := by decide
theorem n01 : ¬ (0 : Int32) ≤ -1 := by decide
theorem m_adH (h : dM q Mm) (h7 : q 0 1 < 7) (a b c : Nat) : ∃ Nm, (jg (jin ((3 : Int32) * (gi Mm 0 26)) 21) (jlet (si Mm 17 ((3 : Int32) * (gi Mm 0 26)).toNatClampNeg (nI a)) fun M33 => (jg (jin (((3 : Int32) * (gi M33 0 26)) + (1 : Int32)) 21) (jlet (si M33 17 (((3 : Int32) * (gi M33 0 26)) + (1 : Int32)).toNatClampNeg (nI b)) fun M35 => (jg (jin (((3 : Int32) * (gi M35 0 26)) + (2 : Int32)) 21) (jlet (si M35 17 (((3 : Int32) * (gi M35 0 26)) + (2 : Int32)).toNatClampNeg (nI c)) fun M37 => (jlet (si M37 0 26 ((gi M37 0 26) + (1 : Int32))) fun M38 => (some ((1 : Int32), M38))))))))) = some (1, Nm) ∧ dM (adH q a b c) Nm ∧ gi Nm 0 22 = gi Mm 0 22 ∧ ∀ j, j ≠ 6 → stM j Mm Nm := by
  obtain ⟨d1, d2, d3, d4⟩ := h
  have s1 : ∀ (k : Nat) (v : Int32) (M : jM), gi (si M 17 k v) 0 26 = gi M 0 26 := fun k v M => by rw [gi_si, if_neg (by omega)]
  simp only [jlet_e, s1, d2, e3k, nI_1, nI2, jg_t (jin_nI (show 3 * q 0 1 < 21 by omega) (by decide)), jg_t (jin_nI (show 3 * q 0 1 + 1 < 21 by omega) (by decide)), jg_t (jin_nI (show 3 * q 0 1 + 2 < 21 by omega) (by decide)), nI_clamp (show 3 * q 0 1 < 2 ^ 31 by omega), nI_clamp (show 3 * q 0 1 + 1 < 2 ^ 31 by omega), nI_clamp (show 3 * q 0 1 + 2 < 2 ^ 31 by omega)]
  refine ⟨_, rfl, ⟨?_, ?_, fun i hi => ?_, fun i hi => ?_⟩, ?_, fun j hj => stM_tr (stM_tr (stM_tr (stM_si (fun w => hj (w.symm.trans rfl))) (stM_si (fun w => hj (w.symm.trans rfl)))) (stM_si (fun w => hj (w.symm.trans rfl)))) (stM_si (fun w => hj (w.symm.trans rfl)))⟩
  · simp [gi_si, d1, adH]
  · simp [gi_si, adH]
  · have hi : i < q 0 0 := hi
    simp [gi_si, adH]
    exact d3 i hi
  · have hi : i < q 0 1 + 1 := hi
    by_cases e : i = q 0 1
    · subst e; simp [gi_si, adH]
    · have o := d4 i (by omega)
      refine ⟨?_, ?_, ?_⟩
      · rw [gi_si, if_neg (by omega), gi_si, if_neg (by omega), gi_si, if_neg (by omega), gi_si, if_neg (by omega), o.1]; simp [adH, e]
      · rw [gi_si, if_neg (by omega), gi_si, if_neg (by omega), gi_si, if_neg (by omega), gi_si, if_neg (by omega), o.2.1]; simp [adH, e]
      · rw [gi_si, if_neg (by omega), gi_si, if_neg (by omega), gi_si, if_neg (by omega), gi_si, if_neg (by omega), o.2.2]; simp [adH, e]
  · simp [gi_si]
theorem m_adD (h : dM q Mm) (h6 : q 0 0 < 6) (h0 : q 0 1 = 0) (a b c : Nat) : ∃ Nm, (jg (jin ((3 : Int32) * (gi Mm 0 24)) 18) (jlet (si Mm 16 ((3 : Int32) * (gi Mm 0 24)).toNatClampNeg (nI a)) fun M26 => (jg (jin (((3 : Int32) * (gi M26 0 24)) + (1 : Int32)) 18) (jlet (si M26 16 (((3 : Int32) * (gi M26 0 24)) + (1 : Int32)).toNatClampNeg (nI b)) fun M28 => (jg (jin (((3 : Int32) * (gi M28 0 24)) + (2 : Int32)) 18) (jlet (si M28 16 (((3 : Int32) * (gi M28 0 24)) + (2 : Int32)).toNatClampNeg (nI c)) fun M30 => (jlet (si M30 0 24 ((gi M30 0 24) + (1 : Int32))) fun M31 => (some ((1 : Int32), M31))))))))) = some (1, Nm) ∧ dM (adD q a b c) Nm ∧ gi Nm 0 22 = gi Mm 0 22 ∧ ∀ j, j ≠ 6 → stM j Mm Nm := by
  obtain ⟨d1, d2, d3, d4⟩ := h
  have s1 : ∀ (k : Nat) (v : Int32) (M : jM), gi (si M 16 k v) 0 24 = gi M 0 24 := fun k v M => by rw [gi_si, if_neg (by omega)]
  simp only [jlet_e, s1, d1, e3k, nI_1, nI2, jg_t (jin_nI (show 3 * q 0 0 < 18 by omega) (by decide)), jg_t (jin_nI (show 3 * q 0 0 + 1 < 18 by omega) (by decide)), jg_t (jin_nI (show 3 * q 0 0 + 2 < 18 by omega) (by decide)), nI_clamp (show 3 * q 0 0 < 2 ^ 31 by omega), nI_clamp (show 3 * q 0 0 + 1 < 2 ^ 31 by omega), nI_clamp (show 3 * q 0 0 + 2 < 2 ^ 31 by omega)]
  refine ⟨_, rfl, ⟨?_, ?_, fun i hi => ?_, fun i hi => ?_⟩, ?_, fun j hj => stM_tr (stM_tr (stM_tr (stM_si (fun w => hj (w.symm.trans rfl))) (stM_si (fun w => hj (w.symm.trans rfl)))) (stM_si (fun w => hj (w.symm.trans rfl)))) (stM_si (fun w => hj (w.symm.trans rfl)))⟩
  · simp [gi_si, adD]
  · simp [gi_si, d2, adD]
  · have hi : i < q 0 0 + 1 := hi
    by_cases e : i = q 0 0
    · subst e; simp [gi_si, adD]
    · have o := d3 i (by omega)
      refine ⟨?_, ?_, ?_⟩
      · rw [gi_si, if_neg (by omega), gi_si, if_neg (by omega), gi_si, if_neg (by omega), gi_si, if_neg (by omega), o.1]; simp [adD, e]
      · rw [gi_si, if_neg (by omega), gi_si, if_neg (by omega), gi_si, if_neg (by omega), gi_si, if_neg (by omega), o.2.1]; simp [adD, e]
      · rw [gi_si, if_neg (by omega), gi_si, if_neg (by omega), gi_si, if_neg (by omega), gi_si, if_neg (by omega), o.2.2]; simp [adD, e]
  · have hi : i < q 0 1 := hi
    omega
  · simp [gi_si]
/-- a state behind what a deed or an hour adds -/
theorem SR_ad {q' : Nat → Nat → Nat} {Nx Nm : jM} (h : SR t n p q Mx0 Mm0 Mx Mm) (hq : okP q') (x1 : dX q' Nx) (x2 : ∀ k, gi Nx 17 k = gi Mx 17 k) (x3 : ∀ j, j ≠ 6 → stX j Mx Nx) (m1 : dM q' Nm) (m2 : gi Nm 0 22 = gi Mm 0 22) (m3 : ∀ j, j ≠ 6 → stM j Mm Nm) : SR t n p q' Mx0 Mm0 Nx Nm := by
  obtain ⟨a1, ⟨b1, b2, b3, b4, b5⟩, a3, a4, a5, a6, a7, a8⟩ := h
  refine ⟨rdX_st a1 x2, ⟨b1, b2, b3, ?_, by rw [m2]; exact b5⟩, hq, x1, m1, a6, fun j hj => stX_tr (a7 j hj) (x3 j hj), fun j hj => stM_tr (a8 j hj) (m3 j hj)⟩
  rw [(m3 2 (by decide) 3 t rfl).1]; exact b4
theorem rd_hour (h : SR t n p q Mx0 Mm0 Mx Mm) (hp : p < n) (h0 : q 0 0 ≠ 0) (h7 : q 0 1 < 7) : OC t n p Mx0 Mm0 (f_X3_readHour Mx) (f_X6_readHour (nI t) Mm) := by
  have h6 := h.2.2.1.1
  obtain ⟨n1, n2, n3⟩ := SR_n h
  have tk0 : f_X3_take 0 Mx = some (0, si Mx 17 3 (nI (p + 1))) := x_tk_t (v := 0) (by decide) h.1.2.2.2.2.2
  unfold f_X3_readHour f_X6_readHour
  rw [tk0, jb2_e, h.2.2.2.2.1.2.1, if_neg (show ¬ nI (q 0 1) = 7 from fun w => by have := (nI_eq (b := 7) (by omega) (by decide)).mp w; omega), h.2.2.2.2.1.1, if_neg (nI_ne0 (by omega) (by omega)), jlet_e, h.2.1.2.2.2.2, nI_1]
  have h1 := SR_p h hp
  rcases sg h1 (a := 65) (m := 24) (by decide) (by decide) (by decide) with ⟨v1, hv1, hp1, x1, y1, h2⟩ | ⟨x1, y1⟩
  · have x1 : f_X3_nextBetween 65 88 _ = _ := x1
    have y1 : f_X6_sign (nI t) 65 24 _ = _ := y1
    rw [x1, jb1_e, x_tk_t (by omega) h1.1.2.2.2.2.2, jb2_e, if_pos (nI_pos' (by omega)), y1, jb2_e, if_pos (nI_pos' (by omega))]
    rcases sg h2 (a := 48) (m := 10) (by decide) (by decide) (by decide) with ⟨v2, hv2, hp2, x2, y2, h3⟩ | ⟨x2, y2⟩
    · have x2 : f_X3_nextBetween 48 57 _ = _ := x2
      have y2 : f_X6_sign (nI t) 48 10 _ = _ := y2
      rw [x2, jb1_e, x_tk_t (by omega) h2.1.2.2.2.2.2, jb2_e, jb2_e, if_pos (nI_pos' (show v2 < 2 ^ 31 by omega)), y2, jb2_e, jb2_e, if_pos (nI_pos' (show v2 < 2 ^ 31 by omega))]
      rcases sg h3 (a := 48) (m := 3) (by decide) (by decide) (by decide) with ⟨v3, hv3, hp3, x3, y3, h4⟩ | ⟨x3, y3⟩
      · have x3 : f_X3_nextBetween 48 50 _ = _ := x3
        have y3 : f_X6_sign (nI t) 48 3 _ = _ := y3
        rw [x3, jb1_e, x_tk_t (by omega) h3.1.2.2.2.2.2, jb2_e, jb2_e, if_pos (nI_pos' (show v3 < 2 ^ 31 by omega)), y3, jb2_e, jb2_e, if_pos (nI_pos' (show v3 < 2 ^ 31 by omega))]
        obtain ⟨Nx, c1, c2, c3, c4⟩ := x_adH (a := v1) (b := v2) (c := v3) h4.2.2.2.1 h7
        obtain ⟨Nm, d1, d2, d3, d4⟩ := m_adH h4.2.2.2.2.1 h7 v1 v2 v3
        rw [c1, jb1_e, d1]
        exact Or.inl ⟨p + 1 + 1 + 1 + 1, adH q v1 v2 v3, Nx, Nm, by omega, rfl, rfl, SR_ad h4 (adH_ok h.2.2.1 h7 h0 (by omega) (by omega) (by omega)) c2 c3 c4 d2 d3 d4⟩
      · have x3 : f_X3_nextBetween 48 50 _ = _ := x3
        have y3 : f_X6_sign (nI t) 48 3 _ = _ := y3
        rw [x3, jb1_e, x_tk_f, jb2_e, jb2_e, if_neg n09, y3, jb2_e, jb2_e, if_neg n01]
        exact Or.inr ⟨_, q, _, _, rfl, rfl, h3⟩
    · have x2 : f_X3_nextBetween 48 57 _ = _ := x2
      have y2 : f_X6_sign (nI t) 48 10 _ = _ := y2
      rw [x2, jb1_e, x_tk_f, jb2_e, jb2_e, if_neg n09, jb2_e, if_neg n09, y2, jb2_e, jb2_e, if_neg n01, jb2_e, if_neg n01]
      exact Or.inr ⟨_, q, _, _, rfl, rfl, h2⟩
  · have x1 : f_X3_nextBetween 65 88 _ = _ := x1
    have y1 : f_X6_sign (nI t) 65 24 _ = _ := y1
    rw [x1, jb1_e, x_tk_f, jb2_e, if_neg n09, jb2_e, if_neg n09, jb2_e, if_neg n09, y1, jb2_e, if_neg n01, jb2_e, if_neg n01, jb2_e, if_neg n01]
    exact Or.inr ⟨_, q, _, _, rfl, rfl, h1⟩
theorem rd_deed (h : SR t n p q Mx0 Mm0 Mx Mm) (hp : p < n) {k : Nat} (hk : k < 6) (hx : f_X3_nextAmongs1 Mx = some (nI k)) (h6 : q 0 0 < 6) (h0 : q 0 1 = 0) : OC t n p Mx0 Mm0 (f_X3_readDeed Mx) (f_X6_readDeed (nI t) (nI k) Mm) := by
  obtain ⟨n1, n2, n3⟩ := SR_n h
  unfold f_X3_readDeed f_X6_readDeed
  rw [hx, jb1_e, x_tk_t (by omega) h.1.2.2.2.2.2, jb2_e, if_pos (nI_pos' (show k < 2 ^ 31 by omega)), h.2.2.2.2.1.1, if_neg (show ¬ nI (q 0 0) = 6 from fun w => by have := (nI_eq (b := 6) (by omega) (by decide)).mp w; omega), h.2.2.2.2.1.2.1, h0, if_pos (show nI 0 ≤ 0 by decide), jlet_e, h.2.1.2.2.2.2, nI_1]
  have h1 := SR_p h hp
  obtain ⟨B, hB, hc⟩ := na2 h1
  rw [hB, jb1_e]
  rcases hc with ⟨l, hl, hp1, x1, y1⟩ | ⟨x1, y1⟩
  · rw [x1, jb1_e, x_tk_t (by omega) h1.1.2.2.2.2.2, jb2_e, jb2_e, if_pos (nI_pos' (show l < 2 ^ 31 by omega)), y1, jlet_e, if_pos (nI_pos' (show l < 2 ^ 31 by omega)), jlet_e, h1.2.1.2.2.2.2, nI_1]
    have h2 := SR_p h1 hp1
    rcases sg h2 (a := 48) (m := 4) (by decide) (by decide) (by decide) with ⟨v, hv, hp2, x2, y2, h3⟩ | ⟨x2, y2⟩
    · have x2 : f_X3_nextBetween 48 51 _ = _ := x2
      have y2 : f_X6_sign (nI t) 48 4 _ = _ := y2
      rw [x2, jb1_e, x_tk_t (by omega) h2.1.2.2.2.2.2, jb2_e, jb2_e, if_pos (nI_pos' (show v < 2 ^ 31 by omega)), y2, jb2_e]
      rcases nd_loop (b := v) (by omega) v 0 jfu 0 _ _ _ (by omega) (by unfold jfu; omega) (Nat.two_pow_pos _) h3 with ⟨p', s', Nx, Nm, a1, a2, a3, a4, a5⟩ | ⟨p', Nx, Nm, a3, a4, a5⟩
      · have a3 : f_X3_readDeed_L67 jfu (nI v) 0 0 _ = _ := a3
        have a4 : f_X6_readDeed_L100 jfu (nI t) (nI v) 0 0 _ = _ := a4
        rw [a3, a4]
        have e1 : ∀ f : Int32 → Int32 → jM → Option (Int32 × jM), jr3 (some (Sum.inr (nI s', nI v, Nx))) f = f (nI s') (nI v) Nx := fun _ => rfl
        have e2 : ∀ f : Int32 → Int32 → jM → Option (Int32 × jM), jr3 (some (Sum.inr (nI s', nI v, Nm))) f = f (nI s') (nI v) Nm := fun _ => rfl
        rw [e1, e2, if_pos (nI_pos' (show v < 2 ^ 31 by omega))]
        obtain ⟨Ox, c1, c2, c3, c4⟩ := x_adD (a := k) (b := l) (c := s') a5.2.2.2.1 h6 h0
        obtain ⟨Om, d1, d2, d3, d4⟩ := m_adD a5.2.2.2.2.1 h6 h0 k l s'
        rw [c1, jb1_e, d1]
        exact Or.inl ⟨p', adD q k l s', Ox, Om, by omega, rfl, rfl, SR_ad a5 (adD_ok h.2.2.1 h6 h0 (by omega) (by omega) a2) c2 c3 c4 d2 d3 d4⟩
      · have a3 : f_X3_readDeed_L67 jfu (nI v) 0 0 _ = _ := a3
        have a4 : f_X6_readDeed_L100 jfu (nI t) (nI v) 0 0 _ = _ := a4
        rw [a3, a4]
        exact Or.inr ⟨p', q, Nx, Nm, rfl, rfl, a5⟩
    · have x2 : f_X3_nextBetween 48 51 _ = _ := x2
      have y2 : f_X6_sign (nI t) 48 4 _ = _ := y2
      rw [x2, jb1_e, x_tk_f, jb2_e, jb2_e, if_neg n09, y2, jb2_e]
      refine Or.inr ⟨_, q, _, _, rfl, ?_, h2⟩
      show jr3 (f_X6_readDeed_L100_b (f_X6_readDeed_L100 29999) (nI t) (-1) 0 0 _) _ = _
      unfold f_X6_readDeed_L100_b
      rw [if_pos (show (-1 : Int32) ≤ 0 by decide)]
      rfl
  · rw [x1, jb1_e, x_tk_f, jb2_e, jb2_e, if_neg n09, jb2_e, if_neg n09, y1, jlet_e, if_neg n01]
    exact Or.inr ⟨_, q, _, _, rfl, rfl, h1⟩
theorem rd_item (h : SR t n p q Mx0 Mm0 Mx Mm) (hp : p < n) : ∃ B kb, f_X6_byteAt (nI t) Mm = some B ∧ f_X6_kindBy B Mm = some kb ∧ OC t n p Mx0 Mm0 (f_X3_readItem Mx) (if kb < 0 then (if B = (104 : Int32) then (jb2 (f_X6_readHour (nI t) Mm) fun r23 M24 => (if r23 = 0 then (some ((0 : Int32), M24)) else (some ((1 : Int32), M24)))) else (some ((0 : Int32), Mm))) else (jb2 (f_X6_readDeed (nI t) kb Mm) fun r27 M28 => (some (r27, M28)))) := by
  obtain ⟨n1, n2, n3⟩ := SR_n h
  have h6 := h.2.2.1.1
  have h7 := h.2.2.1.2.1
  have hz := h.2.2.1.2.2.1
  unfold f_X3_readItem
  rw [show (104 : Int32) = nI 104 from rfl, x_nx h.1 hp, SR_bx h, jb1_e, h.2.2.2.1.1, h.2.2.2.1.2.1]
  have both0 : OC t n p Mx0 Mm0 (some (0, Mx)) (some (0, Mm)) := Or.inr ⟨p, q, Mx, Mm, rfl, rfl, h⟩
  by_cases c : gi Mx0 (13 + t) p = nI 104
  · refine ⟨nI 104, -1, by rw [m_byte h.2.1 hp, SR_bm h (by omega), c], rfl, ?_⟩
    rw [c, if_pos (show nI 104 ≤ nI 104 ∧ nI 104 ≤ nI 104 by decide), if_pos (show nI 104 - nI 104 = 0 by decide), if_pos (show (-1 : Int32) < 0 by decide), if_pos rfl]
    by_cases d0 : q 0 0 = 0
    · rw [d0, if_pos (show nI 0 ≤ 0 by decide)]
      have e : f_X6_readHour (nI t) Mm = some (0, Mm) := by
        unfold f_X6_readHour
        rw [h.2.2.2.2.1.2.1, h.2.2.2.2.1.1, hz d0, d0, if_neg (show ¬ nI 0 = 7 by decide), if_pos (show nI 0 = 0 from rfl)]
      rw [e]; exact both0
    · rw [if_neg (nI_nle (by omega) (by omega))]
      by_cases d7 : q 0 1 < 7
      · rw [if_neg (show ¬ (7 : Int32) ≤ nI (q 0 1) from nI_ge (b := 7) d7 (by decide))]
        rcases rd_hour h hp d0 d7 with ⟨p', q', Nx, Nm, a1, a2, a3, a4⟩ | ⟨p', q', Nx, Nm, a2, a3, a4⟩
        · rw [a2, a3]; exact Or.inl ⟨p', q', Nx, Nm, a1, rfl, rfl, a4⟩
        · rw [a2, a3]; exact Or.inr ⟨p', q', Nx, Nm, rfl, rfl, a4⟩
      · have e7 : q 0 1 = 7 := by omega
        rw [e7, if_pos (show (7 : Int32) ≤ nI 7 by decide)]
        have e : f_X6_readHour (nI t) Mm = some (0, Mm) := by
          unfold f_X6_readHour
          rw [h.2.2.2.2.1.2.1, e7, if_pos (show nI 7 = 7 from rfl)]
        rw [e]; exact both0
  · have hne : ¬ (nI 104 ≤ gi Mx0 (13 + t) p ∧ gi Mx0 (13 + t) p ≤ nI 104) := fun w => c (Int32.le_antisymm w.2 w.1)
    rw [if_neg hne, if_neg (show ¬ (-9 : Int32) = 0 by decide)]
    have bm : f_X6_byteAt (nI t) Mm = some (gi Mx0 (13 + t) p) := by rw [m_byte h.2.1 hp, SR_bm h (by omega)]
    rcases na1 h hp with ⟨k, hk, x1, y1, _⟩ | ⟨x1, y1⟩
    · refine ⟨_, _, bm, y1, ?_⟩
      rw [if_neg (nI_pos (by omega))]
      by_cases d0 : q 0 1 = 0
      · by_cases d6 : q 0 0 < 6
        · rw [d0, if_pos (show nI 0 = 0 from rfl), if_neg (show ¬ (6 : Int32) ≤ nI (q 0 0) from nI_ge (b := 6) d6 (by decide))]
          rcases rd_deed h hp hk x1 d6 d0 with ⟨p', q', Nx, Nm, a1, a2, a3, a4⟩ | ⟨p', q', Nx, Nm, a2, a3, a4⟩
          · rw [a2, a3]; exact Or.inl ⟨p', q', Nx, Nm, a1, rfl, rfl, a4⟩
          · rw [a2, a3]; exact Or.inr ⟨p', q', Nx, Nm, rfl, rfl, a4⟩
        · have e6 : q 0 0 = 6 := by omega
          rw [d0, e6, if_pos (show nI 0 = 0 from rfl), if_pos (show (6 : Int32) ≤ nI 6 by decide)]
          have e : f_X6_readDeed (nI t) (nI k) Mm = some (0, Mm) := by
            unfold f_X6_readDeed
            rw [h.2.2.2.2.1.1, e6, if_pos (show nI 6 = 6 from rfl)]
          rw [e]; exact both0
      · rw [if_neg (nI_ne0 (by omega) (by omega))]
        have e : f_X6_readDeed (nI t) (nI k) Mm = some (0, Mm) := by
          unfold f_X6_readDeed
          rw [h.2.2.2.2.1.1, h.2.2.2.2.1.2.1, if_neg (nI_nle (by omega) (by omega))]
          split <;> rfl
        rw [e]; exact both0
    · refine ⟨_, _, bm, y1, ?_⟩
      rw [if_pos (show (-1 : Int32) < 0 by decide), if_neg c]
      have e : f_X3_readDeed Mx = some (0, Mx) := by
        unfold f_X3_readDeed
        rw [x1, jb1_e, x_tk_f, jb2_e, if_neg n09, jb2_e, if_neg n09, jb2_e, if_neg n09]
      rw [e]
      split
      · split
        · exact both0
        · exact both0
      · exact both0
theorem fr_loop {o z : Nat} : ∀ (r p k m : Nat) (q : Nat → Nat → Nat) (Mx Mm : jM), p + r = n → r < m → k ≤ p → SR t n p q Mx0 Mm0 Mx Mm → (∃ p' q' Nx Nm, f_X3_firstFault_L33 o z m (nI k) Mx = some (.inl (nI p', Nx)) ∧ f_X6_readHouse_L20 m (nI t) Mm = some (.inl (0, Nm)) ∧ SR t n p' q' Mx0 Mm0 Nx Nm) ∨ (∃ q' y Nx Nm, f_X3_firstFault_L33 o z m (nI k) Mx = some (.inr (y, Nx)) ∧ f_X6_readHouse_L20 m (nI t) Mm = some (.inr Nm) ∧ SR t n n q' Mx0 Mm0 Nx Nm) := by
  intro r
  induction r using Nat.strongRecOn with
  | ind r ih =>
    intro p k m q Mx Mm hr hm hk h
    obtain ⟨m', rfl⟩ : ∃ m', m = m' + 1 := ⟨m - 1, by omega⟩
    obtain ⟨n1, n2, n3⟩ := SR_n h
    have u1 : f_X3_firstFault_L33 o z (m' + 1) (nI k) Mx = f_X3_firstFault_L33_b o z (f_X3_firstFault_L33 o z m') (nI k) Mx := rfl
    have u2 : f_X6_readHouse_L20 (m' + 1) (nI t) Mm = f_X6_readHouse_L20_b (f_X6_readHouse_L20 m') (nI t) Mm := rfl
    rw [u1, u2]
    unfold f_X3_firstFault_L33_b f_X6_readHouse_L20_b
    rw [h.1.2.2.2.2.1, h.1.2.2.2.2.2]
    rcases Nat.lt_or_ge p n with hp | hp
    · rw [if_neg (show ¬ (80 : Int32) ≤ nI k from nI_ge (b := 80) (by omega) (by decide)), if_neg (nI_ge hp (by omega)), m_end_f h.2.1 hp, jb1_e, if_pos j00]
      obtain ⟨B, kb, b1, b2, b3⟩ := rd_item h hp
      rw [b1, jb1_e, b2, jb1_e]
      rcases b3 with ⟨p', q', Nx, Nm, a1, a2, a3, a4⟩ | ⟨p', q', Nx, Nm, a2, a3, a4⟩
      · rw [a2, a3, jb2_e, jb2_e, if_neg j10, if_neg j10]
        obtain ⟨p2, Ox, Om, s1, s2, s3, s4⟩ := sk a4
        obtain ⟨o1, o2, o3⟩ := SR_n s4
        rw [s2, s3, jb1_e, jb1_e, jlet_e, nI_1]
        exact ih (n - p2) (by omega) p2 (k + 1) m' q' Ox Om (by omega) (by omega) (by omega) s4
      · rw [a2, a3, jb2_e, jb2_e, if_pos j00, if_pos j00, a4.1.2.2.2.2.2]
        exact Or.inl ⟨p', q', Nx, Nm, rfl, rfl, a4⟩
    · have e : p = n := by omega
      subst e
      rw [if_pos (nI_le (Nat.le_refl _) (by omega)), m_end_t h.2.1 rfl, jb1_e, if_neg j10]
      refine Or.inr ⟨q, nI k, Mx, Mm, ?_, rfl, h⟩
      split <;> rfl
/-- a text read on both sides -/
theorem rd_text (R : Rl Q1 Mx Mm) {t n : Nat} (ht : t < 4) (hn : n ≤ 80) (hx : gi Mx 11 t = nI n) : ∃ Nx Nm, (∀ j, j ≠ 6 → stX j Mx Nx) ∧ (∀ j, j ≠ 6 → stM j Mm Nm) ∧ ((∃ p', p' ≤ 80 ∧ f_X3_firstFault (13 + t) 80 (nI n) Mx = some (nI p', Nx) ∧ f_X6_readHouse (nI t) Mm = some (0, Nm) ∧ gi Nm 0 22 = nI p') ∨ (∃ q, f_X3_firstFault (13 + t) 80 (nI n) Mx = some (-9, Nx) ∧ f_X6_readHouse (nI t) Mm = some (1, Nm) ∧ okP q ∧ dX q Nx ∧ dM q Nm ∧ q 0 0 ≠ 0)) := by
  obtain ⟨r1, r2, r3⟩ := R.2.2.1 t ht
  have hS : SR t n 0 (fun _ _ => 0) Mx Mm (si (si (si (si (si Mx 17 1 (nI (13 + t))) 17 2 (nI n)) 17 3 0) 18 0 0) 18 1 0) (si (si (si Mm 0 22 0) 0 24 0) 0 26 0) := by
    refine ⟨⟨ht, hn, Nat.zero_le _, ?_, ?_, ?_⟩, ⟨ht, hn, Nat.zero_le _, ?_, ?_⟩, ⟨by decide, by decide, fun _ => rfl, fun i hi => absurd hi (Nat.not_lt_zero _), fun i hi => absurd hi (Nat.not_lt_zero _)⟩, ⟨?_, ?_, fun i hi => absurd hi (Nat.not_lt_zero _), fun i hi => absurd hi (Nat.not_lt_zero _)⟩, ⟨?_, ?_, fun i hi => absurd hi (Nat.not_lt_zero _), fun i hi => absurd hi (Nat.not_lt_zero _)⟩, r3, fun j hj => stX_tr (stX_tr (stX_tr (stX_tr (stX_si (fun w => hj (w.symm.trans rfl))) (stX_si (fun w => hj (w.symm.trans rfl)))) (stX_si (fun w => hj (w.symm.trans rfl)))) (stX_si (fun w => hj (w.symm.trans rfl)))) (stX_si (fun w => hj (w.symm.trans rfl))), fun j hj => stM_tr (stM_tr (stM_si (fun w => hj (w.symm.trans rfl))) (stM_si (fun w => hj (w.symm.trans rfl)))) (stM_si (fun w => hj (w.symm.trans rfl)))⟩
    · simp [gi_si]
    · simp [gi_si]
    · simp [gi_si]; rfl
    · simp [gi_si]; rw [← r1]; exact hx
    · simp [gi_si]; rfl
    · simp [gi_si]; rfl
    · simp [gi_si]; rfl
    · simp [gi_si]; rfl
    · simp [gi_si]; rfl
  obtain ⟨p0, Ax, Am, s1, s2, s3, s4⟩ := sk hS
  obtain ⟨o1, o2, o3⟩ := SR_n s4
  have lp := fr_loop (o := 13 + t) (z := 80) (n - p0) p0 0 jfu _ Ax Am (by omega) (by unfold jfu; omega) (Nat.zero_le _) s4
  have e80 : (if Int32.ofNat 80 < nI n then Int32.ofNat 80 else nI n) = nI n := if_neg (show ¬ nI 80 < nI n from nI_nlt (by omega) (by decide))
  have uX : f_X3_firstFault (13 + t) 80 (nI n) Mx = jr2 (f_X3_firstFault_L33 (13 + t) 80 jfu 0 Ax) fun v8 M9 => if gi M9 18 0 = 0 then some (gi M9 17 3, M9) else some (-9, M9) := by
    unfold f_X3_firstFault f_X2_cleard
    rw [jlet_e, e80, jlet_e, jlet_e, jlet_e, jlet_e, jb1_e, s2, jb1_e]
  have uM : f_X6_readHouse (nI t) Mm = jr1 (f_X6_readHouse_L20 jfu (nI t) Am) fun M6 => if gi M6 0 24 ≤ 0 then some (0, M6) else some (1, M6) := by
    unfold f_X6_readHouse
    rw [jlet_e, jlet_e, jlet_e, s3, jb1_e]
  rw [uX, uM]
  rcases lp with ⟨p', q', Nx, Nm, a1, a2, a3⟩ | ⟨q', y, Nx, Nm, a1, a2, a3⟩
  · have a1 : f_X3_firstFault_L33 (13 + t) 80 jfu 0 Ax = _ := a1
    obtain ⟨c1, c2, c3⟩ := SR_n a3
    rw [a1, a2]
    exact ⟨Nx, Nm, a3.2.2.2.2.2.2.1, a3.2.2.2.2.2.2.2, Or.inl ⟨p', by omega, rfl, rfl, a3.2.1.2.2.2.2⟩⟩
  · have a1 : f_X3_firstFault_L33 (13 + t) 80 jfu 0 Ax = _ := a1
    have h6 := a3.2.2.1.1
    rw [a1, a2]
    refine ⟨Nx, Nm, a3.2.2.2.2.2.2.1, a3.2.2.2.2.2.2.2, ?_⟩
    show (∃ p', p' ≤ 80 ∧ (if gi Nx 18 0 = 0 then some (gi Nx 17 3, Nx) else some (-9, Nx)) = _ ∧ (if gi Nm 0 24 ≤ 0 then some (0, Nm) else some (1, Nm)) = _ ∧ _) ∨ (∃ q, (if gi Nx 18 0 = 0 then some (gi Nx 17 3, Nx) else some (-9, Nx)) = _ ∧ (if gi Nm 0 24 ≤ 0 then some (0, Nm) else some (1, Nm)) = _ ∧ _)
    rw [a3.2.2.2.1.1, a3.2.2.2.2.1.1, a3.1.2.2.2.2.2]
    by_cases e : q' 0 0 = 0
    · left
      rw [e, if_pos (show nI 0 = 0 from rfl), if_pos (show nI 0 ≤ 0 by decide)]
      exact ⟨n, hn, rfl, rfl, a3.2.1.2.2.2.2⟩
    · right
      rw [if_neg (nI_ne0 (by omega) (by omega)), if_neg (nI_nle (by omega) (by omega))]
      exact ⟨q', rfl, rfl, a3.2.2.1, a3.2.2.2.1, a3.2.2.2.2.1, e⟩
theorem s_fault : kS_fault (Rl Q1) := by
  intro a1 Mx Mm R
  unfold f_X5_fault f_X6_fault
  rcases jcase a1 4 (by decide) with b | ⟨t, ht, rfl⟩
  · rw [x_refb_bad b, m_isText_f b]
    exact ⟨-1, Mx, Mm, rfl, rfl, R⟩
  · obtain ⟨e1, e2, e3⟩ := R.2.2.1 t ht
    rw [m_isText_t ht, jb1_e, if_neg j10, jg_t (jin_nI ht (by decide)), nI_clamp (show t < 2 ^ 31 by omega), ← e1]
    rcases e2 with e2 | ⟨n, hn, e2⟩
    · rw [x_refb_no ht e2, e2, if_neg m1_neg, show (1 : Int32) = nI 1 from rfl, m_find (by decide)]
      exact ⟨-3, _, _, rfl, rfl, rl_find Q1_stay R (by decide)⟩
    · rw [x_refb_ok ht (by omega) e2, jb2_e, if_pos j00, jg_t (jin_nI ht (by decide)), e2, if_pos (nI_pos' (by omega))]
      obtain ⟨Nx, Nm, sx, sm, hc⟩ := rd_text R ht hn e2
      rcases hc with ⟨p', hp', f1, f2, f3⟩ | ⟨q, f1, f2, _⟩
      · rw [f1, f2, jb2_e, jb2_e, if_pos j00, f3, jg_t (jin_nI ht (by decide))]
        exact ⟨nI p', Nx, Nm, rfl, rfl, R_st R sx sm⟩
      · rw [f1, f2, jb2_e, jb2_e, if_neg j10, jg_t (jin_nI ht (by decide))]
        exact ⟨-9, Nx, Nm, rfl, rfl, R_st R sx sm⟩
end KD
