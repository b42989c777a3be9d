/-! reading a text: both sides side by side -/
def dX (q : Nat → Nat → Nat) (M : jM) : Prop := gi M 18 0 = nI (q 0 0) ∧ gi M 18 1 = nI (q 0 1) ∧ (∀ i, i < q 0 0 → gi M 19 i = nI (q 1 i) ∧ gi M 20 i = nI (q 2 i) ∧ gi M 21 i = nI (q 3 i)) ∧ ∀ h, h < q 0 1 → gi M 23 h = nI (q 4 h) ∧ gi M 24 h = nI (q 5 h) ∧ gi M 25 h = nI (q 6 h)
def dM (q : Nat → Nat → Nat) (M : jM) : Prop := gi M 0 24 = nI (q 0 0) ∧ gi M 0 26 = nI (q 0 1) ∧ (∀ i, i < q 0 0 → gi M 16 (3 * i) = nI (q 1 i) ∧ gi M 16 (3 * i + 1) = nI (q 2 i) ∧ gi M 16 (3 * i + 2) = nI (q 3 i)) ∧ ∀ h, h < q 0 1 → gi M 17 (3 * h) = nI (q 4 h) ∧ gi M 17 (3 * h + 1) = nI (q 5 h) ∧ gi M 17 (3 * h + 2) = nI (q 6 h)
def SR (t n p : Nat) (q : Nat → Nat → Nat) (Mx0 Mm0 Mx Mm : jM) : Prop := rdX t n p Mx ∧ rdM t n p Mm ∧ okP q ∧ dX q Mx ∧ dM q Mm ∧ (∀ k, k < 80 → gi Mx0 (13 + t) k = gi Mm0 4 (80 * t + k)) ∧ (∀ j, j ≠ 6 → stX j Mx0 Mx) ∧ ∀ j, j ≠ 6 → stM j Mm0 Mm
def adD (q : Nat → Nat → Nat) (k l s : Nat) : Nat → Nat → Nat := fun x y => if x = 0 ∧ y = 0 then q 0 0 + 1 else if x = 1 ∧ y = q 0 0 then k else if x = 2 ∧ y = q 0 0 then l else if x = 3 ∧ y = q 0 0 then s else q x y
def adH (q : Nat → Nat → Nat) (a b c : Nat) : Nat → Nat → Nat := fun x y => if x = 0 ∧ y = 1 then q 0 1 + 1 else if x = 4 ∧ y = q 0 1 then a else if x = 5 ∧ y = q 0 1 then b else if x = 6 ∧ y = q 0 1 then c else q x y
section KC
variable {q : Nat → Nat → Nat} {t n p : Nat} {Mx0 Mm0 Mx Mm M : jM}
theorem adD_ok {k l s : Nat} (hq : okP q) (h6 : q 0 0 < 6) (h0 : q 0 1 = 0) (hk : k ≤ 5) (hl : l ≤ 2) (hs : s < 2 ^ q 0 0) : okP (adD q k l s) := by
  obtain ⟨a1, a2, a3, a4, a5⟩ := hq
  have e0 : adD q k l s 0 0 = q 0 0 + 1 := rfl
  have e1 : adD q k l s 0 1 = q 0 1 := rfl
  unfold okP
  rw [e0, e1]
  refine ⟨by omega, by omega, fun h => by omega, fun i hi => ?_, fun h hh => by omega⟩
  by_cases e : i = q 0 0
  · simp [adD, e, hk, hl, hs]
  · simp [adD, e]; exact a4 i (by omega)
theorem adH_ok {a b c : Nat} (hq : okP q) (h6 : q 0 1 < 7) (h0 : q 0 0 ≠ 0) (ha : a ≤ 23) (hb : b ≤ 9) (hc : c ≤ 2) : okP (adH q a b c) := by
  obtain ⟨a1, a2, a3, a4, a5⟩ := hq
  have e0 : adH q a b c 0 0 = q 0 0 := rfl
  have e1 : adH q a b c 0 1 = q 0 1 + 1 := rfl
  unfold okP
  rw [e0, e1]
  refine ⟨by omega, by omega, fun h => by omega, fun i hi => a4 i hi, fun h hh => ?_⟩
  by_cases e : h = q 0 1
  · simp [adH, e, ha, hb, hc]
  · simp [adH, e]; exact a5 h (by omega)
theorem si_same {o k : Nat} : si M o k (gi M o k) = M := by
  unfold si gi
  refine Prod.ext (funext fun a => funext fun b => ?_) rfl
  show (if a = o ∧ b = k then M.1 o k else M.1 a b) = M.1 a b
  by_cases e : a = o ∧ b = k
  · rw [if_pos e, e.1, e.2]
  · rw [if_neg e]
theorem x_tk_t {v : Nat} (hv : v < 2 ^ 31) (hp : gi M 17 3 = nI p) : f_X3_take (nI v) M = some (nI v, si M 17 3 (nI (p + 1))) := by
  unfold f_X3_take
  rw [if_pos (nI_pos' hv), jlet_e, jlet_e, hp, nI_1]
theorem x_tk_f : f_X3_take (-9) M = some (-9, M) := by
  unfold f_X3_take
  rw [if_neg (by decide), jlet_e, jlet_e, Int32.add_zero, si_same]
theorem rdX_st {Nx : jM} (h : rdX t n p Mx) (e : ∀ k, gi Nx 17 k = gi Mx 17 k) : rdX t n p Nx := by
  obtain ⟨h1, h2, h3, h4, h5, h6⟩ := h
  exact ⟨h1, h2, h3, by rw [e]; exact h4, by rw [e]; exact h5, by rw [e]; exact h6⟩
theorem SR_p (h : SR t n p q Mx0 Mm0 Mx Mm) (hp : p < n) : SR t n (p + 1) q Mx0 Mm0 (si Mx 17 3 (nI (p + 1))) (si Mm 0 22 (nI (p + 1))) := by
  obtain ⟨⟨x1, x2, x3, x4, x5, x6⟩, ⟨m1, m2, m3, m4, m5⟩, hq, ⟨d1, d2, d3, d4⟩, ⟨e1, e2, e3, e4⟩, ht, sx, sm⟩ := h
  refine ⟨⟨x1, x2, hp, ?_, ?_, ?_⟩, ⟨m1, m2, hp, ?_, ?_⟩, hq, ⟨?_, ?_, fun i hi => ?_, fun i hi => ?_⟩, ⟨?_, ?_, fun i hi => ?_, fun i hi => ?_⟩, ht, fun j hj => stX_tr (sx j hj) (stX_si (fun w => hj (w.symm.trans rfl))), fun j hj => stM_tr (sm j hj) (stM_si (fun w => hj (w.symm.trans rfl)))⟩
  · rw [gi_si, if_neg (by omega)]; exact x4
  · rw [gi_si, if_neg (by omega)]; exact x5
  · rw [gi_si, if_pos ⟨rfl, rfl⟩]
  · rw [gi_si, if_neg (by omega)]; exact m4
  · rw [gi_si, if_pos ⟨rfl, rfl⟩]
  · rw [gi_si, if_neg (by omega)]; exact d1
  · rw [gi_si, if_neg (by omega)]; exact d2
  · rw [gi_si, if_neg (by omega), gi_si, if_neg (by omega), gi_si, if_neg (by omega)]; exact d3 i hi
  · rw [gi_si, if_neg (by omega), gi_si, if_neg (by omega), gi_si, if_neg (by omega)]; exact d4 i hi
  · rw [gi_si, if_neg (by omega)]; exact e1
  · rw [gi_si, if_neg (by omega)]; exact e2
  · rw [gi_si, if_neg (by omega), gi_si, if_neg (by omega), gi_si, if_neg (by omega)]; exact e3 i hi
  · rw [gi_si, if_neg (by omega), gi_si, if_neg (by omega), gi_si, if_neg (by omega)]; exact e4 i hi
theorem SR_bx (h : SR t n p q Mx0 Mm0 Mx Mm) (k : Nat) : gi Mx (13 + t) k = gi Mx0 (13 + t) k := (h.2.2.2.2.2.2.1 2 (by decide) (13 + t) k (rg13 h.1.1)).1
theorem SR_bm (h : SR t n p q Mx0 Mm0 Mx Mm) {k : Nat} (hk : k < 80) : gi Mm 4 (80 * t + k) = gi Mx0 (13 + t) k := by
  rw [(h.2.2.2.2.2.2.2 2 (by decide) 4 (80 * t + k) rfl).1]
  exact (h.2.2.2.2.2.1 k hk).symm
theorem SR_n (h : SR t n p q Mx0 Mm0 Mx Mm) : p ≤ n ∧ n ≤ 80 ∧ t < 4 := ⟨h.1.2.2.1, h.1.2.1, h.1.1⟩
/-- one sign of a range, or not -/
theorem sg (h : SR t n p q Mx0 Mm0 Mx Mm) {a m : Nat} (ha : a < 2 ^ 20) (hm : m < 2 ^ 20) (h0 : 0 < m) : (∃ v, v < m ∧ p < n ∧ f_X3_nextBetween (nI a) (nI (a + (m - 1))) Mx = some (nI v) ∧ f_X6_sign (nI t) (nI a) (nI m) Mm = some (nI v, si Mm 0 22 (nI (p + 1))) ∧ SR t n (p + 1) q Mx0 Mm0 (si Mx 17 3 (nI (p + 1))) (si Mm 0 22 (nI (p + 1)))) ∨ (f_X3_nextBetween (nI a) (nI (a + (m - 1))) Mx = some (-9) ∧ f_X6_sign (nI t) (nI a) (nI m) Mm = some (-1, Mm)) := by
  obtain ⟨n1, n2, n3⟩ := SR_n h
  rcases Nat.lt_or_ge p n with hp | hp
  · rw [x_nx h.1 hp, m_sign h.2.1 hp (by omega) (by omega) h0, SR_bx h, SR_bm h (by omega)]
    by_cases c : nI a ≤ gi Mx0 (13 + t) p ∧ gi Mx0 (13 + t) p ≤ nI (a + (m - 1))
    · left
      have hx0 : ¬ gi Mx0 (13 + t) p < 0 := fun w => by
        have h1 := c.1
        rw [Int32.lt_iff_toInt_lt] at w
        rw [Int32.le_iff_toInt_le, nI_toInt (by omega)] at h1
        have e0 : (0 : Int32).toInt = 0 := rfl
        omega
      obtain ⟨b, hb, hB⟩ := nI_of hx0
      have c1 := c.1
      have c2 := c.2
      rw [hB] at c1 c2 ⊢
      rw [nI_leI (by omega) (by omega)] at c1 c2
      rw [if_pos ⟨nI_le c1 (by omega), nI_le c2 (by omega)⟩, if_pos ⟨nI_le c1 (by omega), nI_le c2 (by omega)⟩, pk_sub c1]
      exact ⟨b - a, by omega, hp, rfl, rfl, SR_p h hp⟩
    · right
      rw [if_neg c, if_neg c]
      exact ⟨rfl, rfl⟩
  · have e : p = n := by omega
    subst e
    exact Or.inr ⟨x_nx_end h.1, m_sign_end h.2.1⟩
/-- blanks -/
theorem sk_loop : ∀ (r p m : Nat) (Mx Mm : jM), p + r = n → r < m → SR t n p q Mx0 Mm0 Mx Mm → ∃ p' Nx Nm, p ≤ p' ∧ f_X3_skipBlanks_L0 m Mx = some Nx ∧ f_X6_skipBlanks_L0 m (nI t) Mm = some Nm ∧ SR t n p' q Mx0 Mm0 Nx Nm
  | 0, p, m, Mx, Mm, hr, hm, h => by
    obtain ⟨m', rfl⟩ : ∃ m', m = m' + 1 := ⟨m - 1, by omega⟩
    obtain ⟨n1, n2, n3⟩ := SR_n h
    have e : p = n := by omega
    subst e
    refine ⟨p, Mx, Mm, Nat.le_refl _, ?_, ?_, h⟩
    · show f_X3_skipBlanks_L0_b (f_X3_skipBlanks_L0 m') Mx = _
      unfold f_X3_skipBlanks_L0_b
      rw [h.1.2.2.2.2.1, h.1.2.2.2.2.2, if_pos (nI_le (Nat.le_refl _) (by omega))]
    · show f_X6_skipBlanks_L0_b (f_X6_skipBlanks_L0 m') (nI t) Mm = _
      unfold f_X6_skipBlanks_L0_b
      rw [m_end_t h.2.1 rfl, jb1_e, if_neg j10]
  | r + 1, p, m, Mx, Mm, hr, hm, h => by
    obtain ⟨m', rfl⟩ : ∃ m', m = m' + 1 := ⟨m - 1, by omega⟩
    obtain ⟨n1, n2, n3⟩ := SR_n h
    have u1 : f_X3_skipBlanks_L0 (m' + 1) Mx = f_X3_skipBlanks_L0_b (f_X3_skipBlanks_L0 m') Mx := rfl
    have u2 : f_X6_skipBlanks_L0 (m' + 1) (nI t) Mm = f_X6_skipBlanks_L0_b (f_X6_skipBlanks_L0 m') (nI t) Mm := rfl
    rw [u1, u2]
    unfold f_X3_skipBlanks_L0_b f_X6_skipBlanks_L0_b
    have g1 : decide (¬ nI (13 + t) < 0) = true := decide_eq_true (nI_pos (by omega))
    have g2 : decide (GX[(nI (13 + t)).toNatClampNeg]? = some (0, 80)) = true := decide_eq_true (by rw [nI_clamp (by omega)]; exact gxt n3)
    have g3 : jin (nI p) 80 = true := jin_nI (by omega) (by decide)
    rw [h.1.2.2.2.2.1, h.1.2.2.2.2.2, h.1.2.2.2.1, if_neg (nI_ge (show p < n by omega) (by omega)), jg_t g1, jg_t g2, jg_t g3, nI_clamp (show 13 + t < 2 ^ 31 by omega), nI_clamp (show p < 2 ^ 31 by omega), SR_bx h, m_end_f h.2.1 (by omega), jb1_e, if_pos j00, m_byte h.2.1 (by omega), jb1_e, SR_bm h (by omega), h.2.1.2.2.2.2, jlet_e, jlet_e, nI_1]
    by_cases c : gi Mx0 (13 + t) p = 32
    · rw [if_pos c, if_pos c]
      obtain ⟨p', Nx, Nm, i1, i2⟩ := sk_loop r (p + 1) m' _ _ (by omega) (by omega) (SR_p h (by omega))
      exact ⟨p', Nx, Nm, by omega, i2⟩
    · rw [if_neg c, if_neg c]
      exact ⟨p, Mx, Mm, Nat.le_refl _, rfl, rfl, h⟩
theorem sk (h : SR t n p q Mx0 Mm0 Mx Mm) : ∃ p' Nx Nm, p ≤ p' ∧ f_X3_skipBlanks Mx = some Nx ∧ f_X6_skipBlanks (nI t) Mm = some Nm ∧ SR t n p' q Mx0 Mm0 Nx Nm := by
  obtain ⟨n1, n2, n3⟩ := SR_n h
  obtain ⟨p', Nx, Nm, i1, i2, i3, i4⟩ := sk_loop (n - p) p jfu Mx Mm (by omega) (by unfold jfu; omega) h
  refine ⟨p', Nx, Nm, i1, ?_, ?_, i4⟩
  · unfold f_X3_skipBlanks; rw [i2]; rfl
  · unfold f_X6_skipBlanks; rw [i3]; rfl
/-! a new hour, a new deed -/
theorem x_adH (h : dX q Mx) (h7 : q 0 1 < 7) {a b c : Nat} : ∃ Nx, f_X2_addHourd (nI a) (nI b) (nI c) Mx = some Nx ∧ dX (adH q a b c) Nx ∧ (∀ k, gi Nx 17 k = gi Mx 17 k) ∧ ∀ j, j ≠ 6 → stX j Mx Nx := by
  obtain ⟨d1, d2, d3, d4⟩ := h
  unfold f_X2_addHourd
  have s1 : ∀ (o k : Nat) (v : Int32) (M : jM), o ≠ 18 → gi (si M o k v) 18 1 = gi M 18 1 := fun o k v M ho => by rw [gi_si, if_neg (fun w => ho w.1.symm)]
  rw [d2, show (7 : Int32) = nI 7 from rfl, if_pos (nI_lt h7 (by decide)), jg_t (jin_nI h7 (by decide)), nI_clamp (show q 0 1 < 2 ^ 31 by omega), jlet_e, s1 _ _ _ _ (by decide), d2, jg_t (jin_nI h7 (by decide)), nI_clamp (show q 0 1 < 2 ^ 31 by omega), jlet_e, s1 _ _ _ _ (by decide), s1 _ _ _ _ (by decide), d2, jg_t (jin_nI h7 (by decide)), nI_clamp (show q 0 1 < 2 ^ 31 by omega), jlet_e, s1 _ _ _ _ (by decide), s1 _ _ _ _ (by decide), s1 _ _ _ _ (by decide), d2, nI_1, jlet_e]
  refine ⟨_, rfl, ⟨?_, ?_, fun i hi => ?_, fun i hi => ?_⟩, fun k => ?_, fun j hj => stX_tr (stX_tr (stX_tr (stX_si (fun w => hj (w.symm.trans rfl))) (stX_si (fun w => hj (w.symm.trans rfl)))) (stX_si (fun w => hj (w.symm.trans rfl)))) (stX_si (fun w => hj (w.symm.trans rfl)))⟩
  · simp [gi_si, d1, adH]
  · simp [gi_si, adH]
  · have hi : i < q 0 0 := hi
    simp [gi_si, adH]
    exact d3 i hi
  · have hi : i < q 0 1 + 1 := hi
    by_cases e : i = q 0 1
    · subst e; simp [gi_si, adH]
    · simp [gi_si, adH, e]
      exact d4 i (by omega)
  · simp [gi_si]
theorem x_adL {x4 : Nat} (h4 : x4 < 6) (x3 : Int32) : ∀ (r k m : Nat) (M : jM), k + r = x4 → r < m → ∃ N, f_X2_addDeedd_L61 m x3 (nI x4) (nI k) M = some (nI x4, N) ∧ (∀ a z, a ≠ 22 → gi N a z = gi M a z) ∧ ∀ a z, gl N a z = gl M a z
  | 0, k, m, M, hk, hm => by
    obtain ⟨m', rfl⟩ : ∃ m', m = m' + 1 := ⟨m - 1, by omega⟩
    have e : k = x4 := by omega
    refine ⟨M, ?_, fun _ _ _ => rfl, fun _ _ => rfl⟩
    show f_X2_addDeedd_L61_b (f_X2_addDeedd_L61 m') _ _ _ M = _
    unfold f_X2_addDeedd_L61_b
    rw [e, if_pos (nI_le (Nat.le_refl _) (by omega))]
  | r + 1, k, m, M, hk, hm => by
    obtain ⟨m', rfl⟩ : ∃ m', m = m' + 1 := ⟨m - 1, by omega⟩
    have hst : ∃ v, (jb1 (f_X5_isIn x3 (nI k) M) fun r3 => if r3 = 0 then some (0 : Int32) else jg (jin (nI k) 6) (some (gi M 22 (nI k).toNatClampNeg))) = some v := by
      unfold f_X5_isIn
      rw [jg_t (jin_nI (show k < 6 by omega) (by decide))]
      split
      · exact ⟨_, rfl⟩
      · exact ⟨_, rfl⟩
    obtain ⟨v, hv⟩ := hst
    obtain ⟨N, n1, n2, n3⟩ := x_adL h4 x3 r (k + 1) m' (si M 22 x4 (gi M 22 x4 ||| v)) (by omega) (by omega)
    refine ⟨N, ?_, fun a z ha => by rw [n2 a z ha, gi_si, if_neg (fun w => ha w.1)], fun a z => n3 a z⟩
    show f_X2_addDeedd_L61_b (f_X2_addDeedd_L61 m') _ _ _ M = _
    unfold f_X2_addDeedd_L61_b
    rw [if_neg (nI_ge (show k < x4 by omega) (by omega)), jg_t (jin_nI h4 (by decide))]
    obtain ⟨r3, e1, e2⟩ := jb1_s hv
    rw [e1, jb1_e, e2, jb1_e, jg_t (jin_nI h4 (by decide)), nI_clamp (show x4 < 2 ^ 31 by omega), jlet_e, jlet_e, nI_1, n1]
theorem x_adD (h : dX q Mx) (h6 : q 0 0 < 6) (h0 : q 0 1 = 0) {a b c : Nat} : ∃ Nx, f_X2_addDeedd (nI a) (nI b) (nI c) Mx = some Nx ∧ dX (adD q a b c) Nx ∧ (∀ k, gi Nx 17 k = gi Mx 17 k) ∧ ∀ j, j ≠ 6 → stX j Mx Nx := by
  obtain ⟨d1, d2, d3, d4⟩ := h
  unfold f_X2_addDeedd
  rw [d1, show (6 : Int32) = nI 6 from rfl, if_pos (nI_lt h6 (by decide))]
  simp only [jlet_e, nI_1, jg_t (jin_nI h6 (by decide)), nI_clamp (show q 0 0 < 2 ^ 31 by omega)]
  obtain ⟨N, n1, n2, n3⟩ := x_adL h6 (nI c) (q 0 0) 0 jfu (si (si (si (si (si Mx 18 0 (nI (q 0 0 + 1))) 19 (q 0 0) (nI a)) 20 (q 0 0) (nI b)) 21 (q 0 0) (nI c)) 22 (q 0 0) (nI c)) (by omega) (by unfold jfu; omega)
  have n1 : f_X2_addDeedd_L61 jfu (nI c) (nI (q 0 0)) 0 _ = _ := n1
  refine ⟨N, ?_, ⟨?_, ?_, fun i hi => ?_, fun i hi => ?_⟩, fun k => ?_, fun j hj => ?_⟩
  · rw [n1]; rfl
  · rw [n2 _ _ (by decide)]; simp [gi_si, adD]
  · rw [n2 _ _ (by decide)]; simp [gi_si, d2, adD]
  · have hi : i < q 0 0 + 1 := hi
    rw [n2 _ _ (by decide), n2 _ _ (by decide), n2 _ _ (by decide)]
    by_cases e : i = q 0 0
    · subst e; simp [gi_si, adD]
    · simp [gi_si, adD, e]
      exact d3 i (by omega)
  · have hi : i < q 0 1 := hi
    omega
  · rw [n2 _ _ (by decide)]; simp [gi_si]
  · refine stX_tr (stX_tr (stX_tr (stX_tr (stX_tr (stX_si (fun w => hj (w.symm.trans rfl))) (stX_si (fun w => hj (w.symm.trans rfl)))) (stX_si (fun w => hj (w.symm.trans rfl)))) (stX_si (fun w => hj (w.symm.trans rfl)))) (stX_si (fun w => hj (w.symm.trans rfl)))) (fun a k ha => ⟨n2 a k (fun w => hj (by rw [← ha, w]; rfl)), n3 a k⟩)
theorem e3k (k : Nat) : (3 : Int32) * nI k = nI (3 * k) := pk_mul 3 k
theorem nI2 (k : Nat) : nI k + (2 : Int32) = nI (k + 2) := nI_add k 2
/-! kinds and lights -/
theorem na1 (h : SR t n p q Mx0 Mm0 Mx Mm) (hp : p < n) : (∃ k, k < 6 ∧ f_X3_nextAmongs1 Mx = some (nI k) ∧ f_X6_kindBy (gi Mx0 (13 + t) p) Mm = some (nI k) ∧ ¬ gi Mx0 (13 + t) p = 104) ∨ (f_X3_nextAmongs1 Mx = some (-9) ∧ f_X6_kindBy (gi Mx0 (13 + t) p) Mm = some (-1)) := by
  obtain ⟨n1, n2, n3⟩ := SR_n h
  have st : ∀ m k, k < 6 → f_X3_nextAmongs1_L2 (m + 1) (nI k) Mx = if gi Mx0 (13 + t) p = (jsI 1).getD k 0 then some (.inl (nI k)) else f_X3_nextAmongs1_L2 m (nI (k + 1)) Mx := by
    intro m k hk
    show f_X3_nextAmongs1_L2_b (f_X3_nextAmongs1_L2 m) (nI k) Mx = _
    unfold f_X3_nextAmongs1_L2_b
    have g1 : decide (¬ nI (13 + t) < 0) = true := decide_eq_true (nI_pos (by omega))
    have g2 : decide (GX[(nI (13 + t)).toNatClampNeg]? = some (0, 80)) = true := decide_eq_true (by rw [nI_clamp (by omega)]; exact gxt n3)
    have g3 : jin (nI p) 80 = true := jin_nI (by omega) (by decide)
    rw [if_neg (show ¬ (6 : Int32) ≤ nI k from nI_ge (b := 6) hk (by decide)), h.1.2.2.2.2.1, h.1.2.2.2.2.2, h.1.2.2.2.1, if_neg (nI_ge hp (by omega)), jg_t g1, jg_t g2, jg_t g3, jg_t (jin_nI hk (by decide)), nI_clamp (show 13 + t < 2 ^ 31 by omega), nI_clamp (show p < 2 ^ 31 by omega), nI_clamp (show k < 2 ^ 31 by omega), SR_bx h, jlet_e, nI_1]
  have e : f_X3_nextAmongs1 Mx = jr1 (f_X3_nextAmongs1_L2 (29993 + 1 + 1 + 1 + 1 + 1 + 1 + 1) (nI 0) Mx) fun v1 => some (-9) := rfl
  rw [e, st _ 0 (by decide), st _ 1 (by decide), st _ 2 (by decide), st _ 3 (by decide), st _ 4 (by decide), st _ 5 (by decide)]
  unfold f_X6_kindBy
  generalize gi Mx0 (13 + t) p = B
  show (∃ k, k < 6 ∧ (jr1 (if B = 100 then _ else if B = 109 then _ else if B = 115 then _ else if B = 108 then _ else if B = 102 then _ else if B = 112 then _ else _) _) = _ ∧ _) ∨ ((jr1 (if B = 100 then _ else if B = 109 then _ else if B = 115 then _ else if B = 108 then _ else if B = 102 then _ else if B = 112 then _ else _) _) = _ ∧ _)
  by_cases c0 : B = 100
  · subst c0; exact Or.inl ⟨0, by decide, rfl, rfl, by decide⟩
  by_cases c1 : B = 109
  · subst c1; exact Or.inl ⟨1, by decide, rfl, rfl, by decide⟩
  by_cases c2 : B = 115
  · subst c2; exact Or.inl ⟨2, by decide, rfl, rfl, by decide⟩
  by_cases c3 : B = 108
  · subst c3; exact Or.inl ⟨3, by decide, rfl, rfl, by decide⟩
  by_cases c4 : B = 102
  · subst c4; exact Or.inl ⟨4, by decide, rfl, rfl, by decide⟩
  by_cases c5 : B = 112
  · subst c5; exact Or.inl ⟨5, by decide, rfl, rfl, by decide⟩
  right
  rw [if_neg c0, if_neg c1, if_neg c2, if_neg c3, if_neg c4, if_neg c5, if_neg c0, if_neg c1, if_neg c2, if_neg c3, if_neg c4, if_neg c5]
  exact ⟨rfl, rfl⟩
theorem na2 (h : SR t n p q Mx0 Mm0 Mx Mm) : ∃ B, f_X6_byteAt (nI t) Mm = some B ∧ ((∃ k, k < 3 ∧ p < n ∧ f_X3_nextAmongs2 Mx = some (nI k) ∧ (if B = (100 : Int32) then (0 : Int32) else (if B = (110 : Int32) then (1 : Int32) else (if B = (101 : Int32) then (2 : Int32) else (-1 : Int32)))) = nI k) ∨ (f_X3_nextAmongs2 Mx = some (-9) ∧ (if B = (100 : Int32) then (0 : Int32) else (if B = (110 : Int32) then (1 : Int32) else (if B = (101 : Int32) then (2 : Int32) else (-1 : Int32)))) = -1)) := by
  obtain ⟨n1, n2, n3⟩ := SR_n h
  rcases Nat.lt_or_ge p n with hp | hp
  · refine ⟨_, m_byte h.2.1 hp, ?_⟩
    rw [SR_bm h (by omega)]
    have st : ∀ m k, k < 3 → f_X3_nextAmongs2_L2 (m + 1) (nI k) Mx = if gi Mx0 (13 + t) p = (jsI 2).getD k 0 then some (.inl (nI k)) else f_X3_nextAmongs2_L2 m (nI (k + 1)) Mx := by
      intro m k hk
      show f_X3_nextAmongs2_L2_b (f_X3_nextAmongs2_L2 m) (nI k) Mx = _
      unfold f_X3_nextAmongs2_L2_b
      have g1 : decide (¬ nI (13 + t) < 0) = true := decide_eq_true (nI_pos (by omega))
      have g2 : decide (GX[(nI (13 + t)).toNatClampNeg]? = some (0, 80)) = true := decide_eq_true (by rw [nI_clamp (by omega)]; exact gxt n3)
      have g3 : jin (nI p) 80 = true := jin_nI (by omega) (by decide)
      rw [if_neg (show ¬ (3 : Int32) ≤ nI k from nI_ge (b := 3) hk (by decide)), h.1.2.2.2.2.1, h.1.2.2.2.2.2, h.1.2.2.2.1, if_neg (nI_ge hp (by omega)), jg_t g1, jg_t g2, jg_t g3, jg_t (jin_nI hk (by decide)), nI_clamp (show 13 + t < 2 ^ 31 by omega), nI_clamp (show p < 2 ^ 31 by omega), nI_clamp (show k < 2 ^ 31 by omega), SR_bx h, jlet_e, nI_1]
    have e : f_X3_nextAmongs2 Mx = jr1 (f_X3_nextAmongs2_L2 (29996 + 1 + 1 + 1 + 1) (nI 0) Mx) fun v1 => some (-9) := rfl
    rw [e, st _ 0 (by decide), st _ 1 (by decide), st _ 2 (by decide)]
    generalize gi Mx0 (13 + t) p = B
    by_cases c0 : B = 100
    · subst c0; exact Or.inl ⟨0, by decide, hp, rfl, rfl⟩
    by_cases c1 : B = 110
    · subst c1; exact Or.inl ⟨1, by decide, hp, rfl, rfl⟩
    by_cases c2 : B = 101
    · subst c2; exact Or.inl ⟨2, by decide, hp, rfl, rfl⟩
    right
    rw [if_neg (show ¬ B = (jsI 2).getD 0 0 from c0), if_neg (show ¬ B = (jsI 2).getD 1 0 from c1), if_neg (show ¬ B = (jsI 2).getD 2 0 from c2), if_neg c0, if_neg c1, if_neg c2]
    exact ⟨rfl, rfl⟩
  · have e : p = n := by omega
    subst e
    refine ⟨0, m_byte_end h.2.1, Or.inr ⟨?_, by decide⟩⟩
    show jr1 (f_X3_nextAmongs2_L2_b (f_X3_nextAmongs2_L2 29999) 0 Mx) _ = _
    unfold f_X3_nextAmongs2_L2_b
    rw [if_neg (by decide), h.1.2.2.2.2.1, h.1.2.2.2.2.2, if_pos (nI_le (Nat.le_refl _) (by omega))]
    rfl
/-! the needs of a deed -/
theorem x_hdd_t (h : dX q Mx) (hq : okP q) {i : Nat} (hi : i < q 0 0) : f_X2_hasDeedd (nI i) Mx = some 1 := by
  have := hq.1
  unfold f_X2_hasDeedd
  rw [if_neg (nI_pos (by omega)), h.1, if_neg (nI_ge hi (by omega))]
theorem x_hdd_f (h : dX q Mx) {x : Int32} (hx : x < 0 ∨ nI (q 0 0) ≤ x) : f_X2_hasDeedd x Mx = some 0 := by
  unfold f_X2_hasDeedd
  by_cases h1 : x < 0
  · rw [if_pos h1]
  · rw [if_neg h1, h.1, if_pos (hx.resolve_left h1)]
theorem nd_loop {b : Nat} (hb : b ≤ 3) : ∀ (r k m s p : Nat) (Mx Mm : jM), k + r = b → r < m → s < 2 ^ q 0 0 → SR t n p q Mx0 Mm0 Mx Mm → (∃ p' s' Nx Nm, p ≤ p' ∧ s' < 2 ^ q 0 0 ∧ f_X3_readDeed_L67 m (nI b) (nI s) (nI k) Mx = some (.inr (nI s', nI b, Nx)) ∧ f_X6_readDeed_L100 m (nI t) (nI b) (nI s) (nI k) Mm = some (.inr (nI s', nI b, Nm)) ∧ SR t n p' q Mx0 Mm0 Nx Nm) ∨ (∃ p' Nx Nm, f_X3_readDeed_L67 m (nI b) (nI s) (nI k) Mx = some (.inl (0, Nx)) ∧ f_X6_readDeed_L100 m (nI t) (nI b) (nI s) (nI k) Mm = some (.inl (0, Nm)) ∧ SR t n p' q Mx0 Mm0 Nx Nm)
  | 0, k, m, s, p, Mx, Mm, hk, hm, hs, h => by
    obtain ⟨m', rfl⟩ : ∃ m', m = m' + 1 := ⟨m - 1, by omega⟩
    have e : k = b := by omega
    subst e
    refine Or.inl ⟨p, s, Mx, Mm, Nat.le_refl _, hs, ?_, ?_, h⟩
    · show f_X3_readDeed_L67_b (f_X3_readDeed_L67 m') _ _ _ Mx = _
      unfold f_X3_readDeed_L67_b
      rw [if_pos (nI_le (Nat.le_refl _) (by omega))]
    · show f_X6_readDeed_L100_b (f_X6_readDeed_L100 m') _ _ _ _ Mm = _
      unfold f_X6_readDeed_L100_b
      rw [if_pos (nI_le (Nat.le_refl _) (by omega))]
  | r + 1, k, m, s, p, Mx, Mm, hk, hm, hs, h => by
    obtain ⟨m', rfl⟩ : ∃ m', m = m' + 1 := ⟨m - 1, by omega⟩
    obtain ⟨n1, n2, n3⟩ := SR_n h
    have h6 := h.2.2.1.1
    have s64 : s < 64 := Nat.lt_of_lt_of_le hs (show 2 ^ q 0 0 ≤ 2 ^ 6 from Nat.pow_le_pow_right (by decide) h6)
    have u1 : f_X3_readDeed_L67 (m' + 1) (nI b) (nI s) (nI k) Mx = f_X3_readDeed_L67_b (f_X3_readDeed_L67 m') (nI b) (nI s) (nI k) Mx := rfl
    have u2 : f_X6_readDeed_L100 (m' + 1) (nI t) (nI b) (nI s) (nI k) Mm = f_X6_readDeed_L100_b (f_X6_readDeed_L100 m') (nI t) (nI b) (nI s) (nI k) Mm := rfl
    rw [u1, u2]
    unfold f_X3_readDeed_L67_b f_X6_readDeed_L100_b
    rw [if_neg (nI_ge (show k < b by omega) (by omega)), if_neg (nI_ge (show k < b by omega) (by omega))]
    rcases Nat.lt_or_ge p n with hp | hp
    · rw [show (48 : Int32) = nI 48 from rfl, show (57 : Int32) = nI 57 from rfl, x_nx h.1 hp, jb1_e, m_byte h.2.1 hp, jb1_e, jlet_e, m_end_f h.2.1 hp, jb1_e, if_pos j00, SR_bx h, SR_bm h (by omega), h.2.2.2.2.1.1]
      generalize gi Mx0 (13 + t) p = B
      rcases jin_of (x := B - nI 48) (n := q 0 0) (by omega) with w | w | ⟨i, hi, w⟩
      · right
        have hf : (if nI 48 ≤ B ∧ B ≤ nI 57 then B - nI 48 else (-9 : Int32)) < 0 := by
          split
          · exact w
          · exact m9neg
        rw [x_hdd_f h.2.2.2.1 (Or.inl hf), m_inS_f (Or.inl w) (by omega), jb1_e, if_pos j00, jb1_e, if_pos j00]
        exact ⟨p, Mx, Mm, rfl, rfl, h⟩
      · right
        have hf : (if nI 48 ≤ B ∧ B ≤ nI 57 then B - nI 48 else (-9 : Int32)) < 0 ∨ nI (q 0 0) ≤ (if nI 48 ≤ B ∧ B ≤ nI 57 then B - nI 48 else (-9 : Int32)) := by
          split
          · exact Or.inr w
          · exact Or.inl m9neg
        rw [x_hdd_f h.2.2.2.1 hf, m_inS_f (Or.inr w) (by omega), jb1_e, if_pos j00, jb1_e, if_pos j00]
        exact ⟨p, Mx, Mm, rfl, rfl, h⟩
      · have hB : B = nI (48 + i) := by
          have e1 : B = (B - nI 48) + nI 48 := (Int32.sub_add_cancel ..).symm
          rw [e1, w, nI_add, Nat.add_comm]
        have hc : nI 48 ≤ B ∧ B ≤ nI 57 := by
          rw [hB]
          exact ⟨nI_le (by omega) (by omega), nI_le (by omega) (by omega)⟩
        rw [if_pos hc, w, x_hdd_t h.2.2.2.1 h.2.2.1 hi, m_inS_t hi (by omega), jb1_e, if_neg j10, jb1_e, if_neg j10, x_isIn (by omega) (by omega), m_has (by omega) (by omega), jb1_e, b2_if, jb1_e, b2_if]
        cases s.testBit i with
        | true =>
          rw [if_pos rfl, if_pos rfl]
          exact Or.inr ⟨p, Mx, Mm, rfl, rfl, h⟩
        | false =>
          rw [if_neg Bool.false_ne_true, if_neg Bool.false_ne_true, x_tk_t (by omega) h.1.2.2.2.2.2, jb2_e, jlet_e, jlet_e, jlet_e, jlet_e, jlet_e, h.2.1.2.2.2.2, nI_1, nI_1, jshl i (by omega), jor]
          have hs2 : s ||| 2 ^ i < 2 ^ q 0 0 := Nat.or_lt_two_pow hs (Nat.pow_lt_pow_right (by decide) hi)
          rcases nd_loop hb r (k + 1) m' (s ||| 2 ^ i) (p + 1) _ _ (by omega) (by omega) hs2 (SR_p h hp) with ⟨p', s', Nx, Nm, a1, a2, a3, a4, a5⟩ | a
          · exact Or.inl ⟨p', s', Nx, Nm, by omega, a2, a3, a4, a5⟩
          · exact Or.inr a
    · have e : p = n := by omega
      subst e
      right
      rw [x_nx_end h.1, jb1_e, x_hdd_f h.2.2.2.1 (Or.inl m9neg), jb1_e, if_pos j00, m_byte_end h.2.1, jb1_e, jlet_e, m_end_t h.2.1 rfl, jb1_e, if_neg j10]
      exact ⟨p, Mx, Mm, rfl, rfl, h⟩
end KC
