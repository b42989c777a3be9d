/-! orders: the calls that ask -/
section JY
variable {q c : Nat → Nat → Nat} {M N K Mx Mm Nx Nm : jM} {T : Nat → Prop}
theorem st_ex (h1 : ∀ a k, a ≠ 65 → gi N a k = gi M a k) (h2 : ∀ a k, a ≠ 66 → gl N a k = gl M a k) {j : Nat} (hj : j ≠ 6) : stX j M N := fun a k ha => ⟨h1 a k (fun w => hj (by rw [← ha, w]; rfl)), h2 a k (fun w => hj (by rw [← ha, w]; rfl))⟩
theorem st_re (h1 : ∀ a k, a ≠ 20 → a ≠ 21 → a ≠ 22 → gi N a k = gi M a k) (h2 : ∀ a k, gl N a k = gl M a k) {j : Nat} (hj : j ≠ 6) : stM j M N := fun a k ha => ⟨h1 a k (fun w => hj (by rw [← ha, w]; rfl)) (fun w => hj (by rw [← ha, w]; rfl)) (fun w => hj (by rw [← ha, w]; rfl)), h2 a k⟩
theorem R_st (R : Rl Q1 Mx Mm) (hx : ∀ j, j ≠ 6 → stX j Mx Nx) (hm : ∀ j, j ≠ 6 → stM j Mm Nm) : Rl Q1 Nx Nm := ⟨ra_stay (hx 0 (by decide)) (hm 0 (by decide)) R.1, rr_stay (hx 1 (by decide)) (hm 1 (by decide)) R.2.1, rt_stay (hx 2 (by decide)) (hm 2 (by decide)) R.2.2.1, Q1_stay _ _ _ _ (fun j hj => ⟨hx j (by omega), hm j (by omega)⟩) R.2.2.2⟩
/-- what is reached -/
def Tq (q c : Nat → Nat → Nat) (P : Nat) : Nat → Prop := clo (Eg q P) (s0 q c)
theorem Tq_0 (hq : okP q) (hc : okC q c) {P : Nat} : ∃ D, D < 64 ∧ rD (Tq q c P) 0 D := ⟨vec q c (c 1 0) 3, (vbd hq hc).2.2.2.1, _, g0_le (vec q c (c 1 0) 4), clo_s⟩
theorem Tq_P (hq : okP q) (hc : okC q c) {P S D : Nat} (hS : S < 128) (hD : D < 64) (h : rD (Tq q c P) S D) : ∀ i, S.testBit i = true → P.testBit i = true := by
  obtain ⟨g, hg, h⟩ := h
  have := (clo_ok hq (s0_lt hq hc) h).2
  rw [(cs_d hS hD hg).1] at this
  exact this
theorem dif_0 {a b : Nat} (ha : a < 128) : dif a b = 0 ↔ ∀ i, a.testBit i = true → b.testBit i = true := by
  constructor
  · intro h i hi
    have e := dif_bit (b := b) ha i
    rw [h, hi] at e
    simpa using e
  · intro h
    refine jbtE fun i => ?_
    rw [dif_bit ha]
    cases w : a.testBit i with
    | false => simp
    | true => rw [h i w]; simp
theorem and_0 {a b : Nat} : a &&& b = 0 ↔ ∀ i, a.testBit i = true → b.testBit i = false := by
  constructor
  · intro h i hi
    have e := Nat.testBit_and a b i
    rw [h, hi] at e
    simpa using e
  · intro h
    refine jbtE fun i => ?_
    rw [Nat.testBit_and]
    cases w : a.testBit i with
    | false => simp
    | true => rw [h i w]; simp
/-- explore and reach, then mosts -/
theorem both (R : Rl Q1 Mx Mm) (H : Q2 q c Mx Mm) {P e : Nat} (hP : P < 128) (hPh : ∀ h, P.testBit h = true → h < q 0 1) (he : e ≤ 6) : ∃ Nx Nr Nm, f_X1_explore (nI P) Mx = some Nx ∧ f_X6_reach (nI P) Mm = some Nr ∧ f_X6_findMosts (dI e) Nr = some Nm ∧ arL Nx (Tq q c P) ∧ (∀ z, z < 128 → gi Nm 22 z = tm (mx (Tq q c P) e z)) ∧ (∀ j, j ≠ 6 → stX j Mx Nx) ∧ (∀ j, j ≠ 6 → stM j Mm Nm) ∧ Rl Q1 Nx Nm ∧ Q2 q c Nx Nm := by
  obtain ⟨Nx, a1, a2, a3, a4, a5⟩ := x_explore (H_cx H) hP hPh
  obtain ⟨Nr, b1, b2, b3, b4⟩ := m_reach (H_cm H) hP
  obtain ⟨Nm, c1, c2, c3, c4⟩ := m_fm (T := Tq q c P) he b2
  have sx : ∀ j, j ≠ 6 → stX j Mx Nx := fun j hj => st_ex a4 a5 hj
  have sm : ∀ j, j ≠ 6 → stM j Mm Nm := fun j hj => st_re (fun a k h1 h2 h3 => (c3 a k h3).trans (b3 a k h1)) (fun a k => (c4 a k).trans (b4 a k)) hj
  exact ⟨Nx, Nr, Nm, a1, b1, c1, a2, c2, sx, sm, R_st R sx sm, Q2_st (sx 3 (by decide)) (sx 4 (by decide)) (sx 5 (by decide)) (sm 3 (by decide)) (sm 4 (by decide)) (sm 5 (by decide)) H⟩
theorem shf_h {v : Nat → Nat} {d : Nat} : ∀ h, (shf q c v d).testBit h = true → h < q 0 1 := fun h hh => by
  rw [shf_bit] at hh
  simp at hh
  exact hh.1
theorem s_fewest : kS_fewest (Rl Q1) := by
  intro a1 Mx Mm R
  obtain ⟨q, c, H⟩ := R.2.2.2
  have b := vbd H.1 H.2.2.2.1
  unfold f_X5_fewest f_X6_fewest
  rcases jdeed q H.1 a1 0 (Or.inl rfl) with w | ⟨i, hi, rfl⟩
  · rw [x_hd_f H.2.1 w, m_hd_f H.1 H.2.2.1 w]
    exact ⟨-1, Mx, Mm, rfl, rfl, R⟩
  · rw [x_hd_t H.1 H.2.1 hi, jb1_e, if_neg j10, m_hd_t H.1 H.2.2.1 hi, jb1_e, if_neg j10, x_shelf (H_cx H), jb1_e, m12_0 (H_cm H), m_shelf (H_cm H) (by omega), jb1_e]
    obtain ⟨Nx, Nr, Nm, a1, b1, c1, a2, c2, sx, sm, R2, H2⟩ := both R H (e := i + 1) (shf_lt (c := c) (v := vec q c (c 1 0)) (d := vec q c (c 1 0) 0) H.1) shf_h (by omega)
    rw [dI_s] at c1
    rw [a1, jb1_e, b1, jb1_e, c1, jb1_e, x_fht a2 (by omega), jb1_e, m_few34 c2, jb2_e]
    have ep : fwl (fun S => !(decide (mx (Tq q c (shf q c (vec q c (c 1 0)) (vec q c (c 1 0) 0))) (i + 1) S = 0))) pc 99 128 = fwl (fun S => cd (dS (Tq q c (shf q c (vec q c (c 1 0)) (vec q c (c 1 0) 0))) i S)) pc 99 128 := fwl_cg 128 (fun k _ => by
      by_cases z : dS (Tq q c (shf q c (vec q c (c 1 0)) (vec q c (c 1 0) 0))) i k
      · rw [cd_tt z, decide_eq_false (fun u => (mx_0.mp u) z)]; rfl
      · rw [cd_ff z]; simp [mx_0.mpr z])
    rw [ep]
    have hf := fwl_a (p := fun S => cd (dS (Tq q c (shf q c (vec q c (c 1 0)) (vec q c (c 1 0) 0))) i S)) (w := pc) (a := 99) 128
    generalize fwl (fun S => cd (dS (Tq q c (shf q c (vec q c (c 1 0)) (vec q c (c 1 0) 0))) i S)) pc 99 128 = v at *
    refine ⟨e99 v, Nx, Nm, rfl, ?_, R2⟩
    unfold e99
    by_cases z : v = 99
    · rw [if_pos z, if_pos (by rw [z]; rfl)]
    · rw [if_neg z, if_neg (show ¬ nI v = 99 from fun u => z ((nI_eq (b := 99) (by omega) (by decide)).mp u))]
theorem x_d0 {α : Type} (hq : okP q) (hx : hX q M) (x y : α) : (if gi M 29 0 = 0 then x else y) = if q 0 0 = 0 then x else y := by
  have := hq.1
  rw [hx.1]
  by_cases e : q 0 0 = 0
  · rw [if_pos e, e]; rfl
  · rw [if_neg e, if_neg (nI_ne0 (by omega) (by omega))]
theorem m_d0 {α : Type} (hq : okP q) (hx : hM q M) (x y : α) : (if gi M 0 7 = 0 then x else y) = if q 0 0 = 0 then x else y := by
  have := hq.1
  rw [hx.1]
  by_cases e : q 0 0 = 0
  · rw [if_pos e, e]; rfl
  · rw [if_neg e, if_neg (nI_ne0 (by omega) (by omega))]
theorem s_most : kS_most (Rl Q1) := by
  intro Mx Mm R
  obtain ⟨q, c, H⟩ := R.2.2.2
  have b := vbd H.1 H.2.2.2.1
  unfold f_X5_most f_X6_most
  rw [x_d0 H.1 H.2.1, m_d0 H.1 H.2.2.1]
  by_cases e0 : q 0 0 = 0
  · rw [if_pos e0, if_pos e0]; exact ⟨-4, Mx, Mm, rfl, rfl, R⟩
  · rw [if_neg e0, if_neg e0, x_shelf (H_cx H), jb1_e, m12_0 (H_cm H), m_shelf (H_cm H) (by omega), jb1_e]
    have hP := shf_lt (c := c) (v := vec q c (c 1 0)) (d := vec q c (c 1 0) 0) H.1
    have hPh := shf_h (q := q) (c := c) (v := vec q c (c 1 0)) (d := vec q c (c 1 0) 0)
    generalize shf q c (vec q c (c 1 0)) (vec q c (c 1 0) 0) = P at *
    obtain ⟨Nx, Nr, Nm, a1, b1, c1, a2, c2, sx, sm, R2, H2⟩ := both R H (e := 0) hP hPh (by decide)
    rw [dI0] at c1
    obtain ⟨L, l1, l2, l3⟩ := x_most (Z := 0) (W := P) a2 (by decide) (Tq_0 H.1 H.2.2.2.1) (fun S D hS hD h => ⟨fun _ => (dif_0 hS).mpr (Tq_P H.1 H.2.2.2.1 hS hD h), fun _ => Nat.and_zero S⟩)
    have l2 : f_X1_mostDone 0 Nx = _ := l2
    rw [a1, jb1_e, b1, jb1_e, c1, jb1_e, l2, jb1_e, x_fhf a2 (by omega), jb1_e, jlet_e, m_mostOf hP c2, jb1_e, l3, m_most44 (by omega) c2, jb2_e, m_answer, jb2_e, tmS]
    have ep : fwl (fun S => decide (mx (Tq q c P) 0 S = L + 1)) pc 7 128 = fwl (fun S => cd (∃ D, D < 64 ∧ rD (Tq q c P) S D ∧ pc D = L)) pc 7 128 := fwl_cg 128 (fun k hk => by
      have hle : mx (Tq q c P) 0 k ≤ L + 1 := by
        rcases Nat.lt_or_ge (L + 1) (mx (Tq q c P) 0 k) with w | w
        · obtain ⟨D, h1, h2, h3, h4⟩ := mx_le.mp w
          have := mO_le.mpr ⟨k, D, hk, (dif_0 hk).mpr (Tq_P H.1 H.2.2.2.1 hk h1 h2), h1, h2, h3, h4⟩
          omega
        · exact w
      by_cases z : ∃ D, D < 64 ∧ rD (Tq q c P) k D ∧ pc D = L
      · obtain ⟨D, h1, h2, h3⟩ := z
        have := mx_le.mpr ⟨D, h1, h2, (rfl : Ae 0 D = true), Nat.le_of_eq h3.symm⟩
        rw [cd_tt ⟨D, h1, h2, h3⟩]
        simp; omega
      · rw [cd_ff z]
        simp only [decide_eq_false_iff_not]
        intro u
        obtain ⟨D, h1, h2, h3, h4⟩ := mx_le.mp (Nat.le_of_eq u.symm)
        refine z ⟨D, h1, h2, ?_⟩
        have := mx_le.mpr ⟨D, h1, h2, (rfl : Ae 0 D = true), Nat.le_refl (pc D)⟩
        omega)
    rw [ep]
    exact ⟨nI L, _, _, rfl, rfl, rl_tell Q1_stay R2 _⟩
theorem s_shut : kS_shut (Rl Q1) := by
  intro Mx Mm R
  obtain ⟨q, c, H⟩ := R.2.2.2
  have b := vbd H.1 H.2.2.2.1
  unfold f_X5_shut f_X6_shut
  rw [x_d0 H.1 H.2.1, m_d0 H.1 H.2.2.1]
  by_cases e0 : q 0 0 = 0
  · rw [if_pos e0, if_pos e0]; exact ⟨-4, Mx, Mm, rfl, rfl, R⟩
  · rw [if_neg e0, if_neg e0, x_shelf (H_cx H), jb1_e, m12_0 (H_cm H), m_shelf (H_cm H) (by omega), jb1_e]
    have hP := shf_lt (c := c) (v := vec q c (c 1 0)) (d := vec q c (c 1 0) 0) H.1
    have hPh := shf_h (q := q) (c := c) (v := vec q c (c 1 0)) (d := vec q c (c 1 0) 0)
    generalize shf q c (vec q c (c 1 0)) (vec q c (c 1 0) 0) = P at *
    obtain ⟨Nx, Nr, Nm, a1, b1, c1, a2, c2, sx, sm, R2, H2⟩ := both R H (e := 0) hP hPh (by decide)
    rw [dI0] at c1
    obtain ⟨L, l1, l2, l3⟩ := x_most (Z := 0) (W := P) a2 (by decide) (Tq_0 H.1 H.2.2.2.1) (fun S D hS hD h => ⟨fun _ => (dif_0 hS).mpr (Tq_P H.1 H.2.2.2.1 hS hD h), fun _ => Nat.and_zero S⟩)
    have l2 : f_X1_mostDone 0 Nx = _ := l2
    rw [a1, jb1_e, b1, jb1_e, c1, jb1_e, l2, jb1_e]
    have hsx : f_X5_shut_L47 jfu (nI P) (nI L) 0 0 Nx = some (nI (bts (fun h => P.testBit h && decide (mO (Tq q c P) 0 (dif P (2 ^ h)) = L + 1)) (q 0 1)), nI (q 0 1)) := by
      refine jloop0 (L := fun m (s : Int32 × Int32) => f_X5_shut_L47 m (nI P) (nI L) s.1 s.2 Nx) (S := fun k => (nI (bts (fun h => P.testBit h && decide (mO (Tq q c P) 0 (dif P (2 ^ h)) = L + 1)) k), nI k)) (n := q 0 1) (by unfold jfu; omega) ?_ ?_
      · intro m k hk
        show f_X5_shut_L47_b (f_X5_shut_L47 m) _ _ _ (nI k) Nx = f_X5_shut_L47 m (nI P) (nI L) _ (nI (k + 1)) Nx
        have p7 : 2 ^ k < 128 := Nat.lt_of_lt_of_le (Nat.pow_lt_pow_right (by decide) (show k < 7 by omega)) (by decide)
        obtain ⟨L', k1, k2, k3⟩ := x_most (Z := 2 ^ k) (W := dif P (2 ^ k)) a2 p7 (Tq_0 H.1 H.2.2.2.1) (fun S D hS hD h => by
          have hSP := Tq_P H.1 H.2.2.2.1 hS hD h
          rw [and_0, dif_0 hS]
          constructor
          · intro w i hi
            rw [dif_bit hP, hSP i hi, w i hi]; rfl
          · intro w i hi
            have := w i hi
            rw [dif_bit hP, hSP i hi] at this
            simpa using this)
        have e1 : (if b2 (P.testBit k) = 0 then some (nI (bts (fun h => P.testBit h && decide (mO (Tq q c P) 0 (dif P (2 ^ h)) = L + 1)) k)) else jb1 (f_X1_mostDone ((1 : Int32) <<< (nI k &&& 31)) Nx) fun r13 => if r13 = nI L then jlet (nI (bts (fun h => P.testBit h && decide (mO (Tq q c P) 0 (dif P (2 ^ h)) = L + 1)) k) ||| (1 : Int32) <<< (nI k &&& 31)) fun v16 => some v16 else some (nI (bts (fun h => P.testBit h && decide (mO (Tq q c P) 0 (dif P (2 ^ h)) = L + 1)) k))) = some (nI (bts (fun h => P.testBit h && decide (mO (Tq q c P) 0 (dif P (2 ^ h)) = L + 1)) (k + 1))) := by
          rw [← jbor, jshl k (by omega), k2, jb1_e, jlet_e, b2_if, k3]
          cases P.testBit k with
          | false => rw [if_neg Bool.false_ne_true, if_neg (by simp)]; exact congrArg some (by rw [show (0 : Int32) = nI 0 from rfl, jor, Nat.or_zero])
          | true =>
            rw [if_pos rfl]
            by_cases w : L' = L
            · rw [w, if_pos rfl, if_pos (by simp)]
            · rw [if_neg (fun z => w ((nI_eq (by omega) (by omega)).mp z)), if_neg (by simp [w])]; exact congrArg some (by rw [show (0 : Int32) = nI 0 from rfl, jor, Nat.or_zero])
        unfold f_X5_shut_L47_b
        rw [H2.2.1.2.1, if_neg (nI_ge hk (by omega)), x_isIn (by omega) (by omega), jb1_e, e1, jb1_e, jlet_e, nI_1]
      · intro m
        show f_X5_shut_L47_b (f_X5_shut_L47 m) _ _ _ (nI (q 0 1)) Nx = _
        unfold f_X5_shut_L47_b
        rw [H2.2.1.2.1, if_pos (nI_le (Nat.le_refl _) (by omega))]
    have hsm : f_X6_shut_L36 jfu (nI P) 0 0 Nm = some (nI (bts (fun h => P.testBit h && decide (mO (Tq q c P) 0 (dif P (2 ^ h)) = L + 1)) (q 0 1)), nI (q 0 1)) := by
      refine jloop0 (L := fun m (s : Int32 × Int32) => f_X6_shut_L36 m (nI P) s.1 s.2 Nm) (S := fun k => (nI (bts (fun h => P.testBit h && decide (mO (Tq q c P) 0 (dif P (2 ^ h)) = L + 1)) k), nI k)) (n := q 0 1) (by unfold jfu; omega) ?_ ?_
      · intro m k hk
        show f_X6_shut_L36_b (f_X6_shut_L36 m) _ _ (nI k) Nm = f_X6_shut_L36 m (nI P) _ (nI (k + 1)) Nm
        have p7 : 2 ^ k < 128 := Nat.lt_of_lt_of_le (Nat.pow_lt_pow_right (by decide) (show k < 7 by omega)) (by decide)
        have hm := mO_bd (T := Tq q c P) (e := 0) (W := dif P (2 ^ k))
        have e1 : (if b2 (P.testBit k) = 0 then some (0 : Int32) else jb1 (f_X6_mostOf (nI P &&& ((1 : Int32) <<< (nI k &&& 31) ^^^ -1)) Nm) fun r14 => jb1 (f_X6_mostOf (nI P) Nm) fun r16 => if r14 = r16 then some ((1 : Int32) <<< (nI k &&& 31)) else some 0) = some (if (P.testBit k && decide (mO (Tq q c P) 0 (dif P (2 ^ k)) = L + 1)) = true then nI (2 ^ k) else 0) := by
          rw [jshl k (by omega), jdif hP p7, m_mostOf (dif_lt hP) c2, jb1_e, m_mostOf hP c2, jb1_e, l3, b2_if]
          cases P.testBit k with
          | false => rw [if_neg Bool.false_ne_true, if_neg (by simp)]
          | true =>
            rw [if_pos rfl]
            by_cases w : mO (Tq q c P) 0 (dif P (2 ^ k)) = L + 1
            · rw [w, if_pos rfl, if_pos (by simp)]
            · rw [if_neg (fun z => w ((tm_eq (by omega) (by omega)).mp z)), if_neg (by simp [w])]
        unfold f_X6_shut_L36_b
        rw [H2.2.2.1.2.1, if_neg (nI_ge hk (by omega)), m_has (by omega) (by omega), jb1_e, e1, jb1_e, jlet_e, jlet_e, nI_1, jacc rfl]
      · intro m
        show f_X6_shut_L36_b (f_X6_shut_L36 m) _ _ (nI (q 0 1)) Nm = _
        unfold f_X6_shut_L36_b
        rw [H2.2.2.1.2.1, if_pos (nI_le (Nat.le_refl _) (by omega))]
    rw [hsx, hsm]
    exact ⟨_, Nx, Nm, rfl, rfl, R2⟩
/-! waits -/
def dal (q c : Nat → Nat → Nat) (S : Nat) : Nat → Nat
  | 0 => vec q c (c 1 0) 0
  | k + 1 => if (S.testBit k && decide (dal q c S k < cmg q c k)) = true then cmg q c k else dal q c S k
theorem dal_le {S d : Nat} : ∀ n, dal q c S n ≤ d ↔ vec q c (c 1 0) 0 ≤ d ∧ ∀ h, h < n → S.testBit h = true → cmg q c h ≤ d
  | 0 => ⟨fun h => ⟨h, fun _ w => absurd w (Nat.not_lt_zero _)⟩, fun h => h.1⟩
  | n + 1 => by
    have ih := dal_le (S := S) (d := d) n
    show (if (S.testBit n && decide (dal q c S n < cmg q c n)) = true then cmg q c n else dal q c S n) ≤ d ↔ _
    constructor
    · intro h
      by_cases w : (S.testBit n && decide (dal q c S n < cmg q c n)) = true
      · rw [if_pos w] at h
        rw [Bool.and_eq_true, decide_eq_true_iff] at w
        obtain ⟨i1, i2⟩ := ih.mp (by omega)
        refine ⟨i1, fun z hz hb => ?_⟩
        by_cases e : z = n
        · subst e; exact h
        · exact i2 z (by omega) hb
      · rw [if_neg w] at h
        obtain ⟨i1, i2⟩ := ih.mp h
        refine ⟨i1, fun z hz hb => ?_⟩
        by_cases e : z = n
        · subst e
          rw [hb] at w
          have : ¬ dal q c S z < cmg q c z := by simpa using w
          omega
        · exact i2 z (by omega) hb
    · rintro ⟨i1, i2⟩
      have := ih.mpr ⟨i1, fun z hz hb => i2 z (by omega) hb⟩
      by_cases w : (S.testBit n && decide (dal q c S n < cmg q c n)) = true
      · rw [if_pos w]
        rw [Bool.and_eq_true] at w
        exact i2 n (by omega) w.1
      · rw [if_neg w]; exact this
theorem dal_bd (hq : okP q) (hc : okC q c) {S n : Nat} (hn : n ≤ q 0 1) : dal q c S n ≤ 40 := (dal_le n).mpr ⟨(vbd hq hc).1, fun h hh _ => Nat.le_trans (cmg_le hq hc (by omega)) (by decide)⟩
theorem x_dal (H : CX q c M) {S : Nat} (hS : S < 128) : f_X0_dayOfAll (nI S) M = some (nI (dal q c S (q 0 1))) := by
  have b := vbd H.1 H.2.2.1
  have hl : f_X0_dayOfAll_L7 jfu (nI S) (nI (vec q c (c 1 0) 0)) 0 M = some (nI (dal q c S (q 0 1)), nI (q 0 1)) := by
    refine jloop0 (L := fun m (s : Int32 × Int32) => f_X0_dayOfAll_L7 m (nI S) s.1 s.2 M) (S := fun k => (nI (dal q c S k), nI k)) (n := q 0 1) (by unfold jfu; omega) ?_ ?_
    · intro m k hk
      show f_X0_dayOfAll_L7_b (f_X0_dayOfAll_L7 m) (nI S) _ (nI k) M = f_X0_dayOfAll_L7 m (nI S) (nI (if (S.testBit k && decide (dal q c S k < cmg q c k)) = true then cmg q c k else dal q c S k)) (nI (k + 1)) M
      have e := cmg_le H.1 H.2.2.1 hk
      have hd := dal_bd H.1 H.2.2.1 (S := S) (show k ≤ q 0 1 by omega)
      have e1 : (if b2 (S.testBit k) = 0 then some (nI (dal q c S k)) else some (if nI (dal q c S k) < nI (cmg q c k) then nI (cmg q c k) else nI (dal q c S k))) = some (nI (if (S.testBit k && decide (dal q c S k < cmg q c k)) = true then cmg q c k else dal q c S k)) := by
        rw [b2_if]
        cases S.testBit k with
        | false => rfl
        | true =>
          rw [if_pos rfl]
          by_cases w : dal q c S k < cmg q c k
          · rw [if_pos (nI_lt w (by omega)), if_pos (by simp [w])]
          · rw [if_neg (nI_nlt (by omega) (by omega)), if_neg (by simp [w])]
      unfold f_X0_dayOfAll_L7_b
      rw [H.2.1.2.1, if_neg (nI_ge hk (by omega)), x_isIn (by omega) (by omega), jb1_e, x_comes H hk, jb1_e, e1, jb1_e, jlet_e, nI_1]
    · intro m
      show f_X0_dayOfAll_L7_b (f_X0_dayOfAll_L7 m) _ _ (nI (q 0 1)) M = _
      unfold f_X0_dayOfAll_L7_b
      rw [H.2.1.2.1, if_pos (nI_le (Nat.le_refl _) (by omega))]
  unfold f_X0_dayOfAll
  rw [jlet_e, x7 H, hl]; rfl
theorem x_wt36 (H : CX q c M) (ha : arL M T) {i : Nat} (hi : i < 6) : f_X5_waits_L36 jfu (nI i) (-9) 0 M = some (e99 (fwl (fun S => cd (dS T i S)) (fun S => dal q c S (q 0 1)) 99 128), nI 128) := by
  refine jloop0 (L := fun m (s : Int32 × Int32) => f_X5_waits_L36 m (nI i) s.1 s.2 M) (S := fun k => (e99 (fwl (fun S => cd (dS T i S)) (fun S => dal q c S (q 0 1)) 99 k), nI k)) (n := 128) (by decide) ?_ ?_
  · intro m k hk
    show f_X5_waits_L36_b (f_X5_waits_L36 m) (nI i) _ (nI k) M = f_X5_waits_L36 m (nI i) (e99 (if (cd (dS T i k) && decide (dal q c k (q 0 1) < fwl (fun S => cd (dS T i S)) (fun S => dal q c S (q 0 1)) 99 k)) = true then dal q c k (q 0 1) else fwl (fun S => cd (dS T i S)) (fun S => dal q c S (q 0 1)) 99 k)) (nI (k + 1)) M
    have hf := fwl_a (p := fun S => cd (dS T i S)) (w := fun S => dal q c S (q 0 1)) (a := 99) k
    generalize fwl (fun S => cd (dS T i S)) (fun S => dal q c S (q 0 1)) 99 k = v at *
    have hp := dal_bd H.1 H.2.2.1 (S := k) (Nat.le_refl (q 0 1))
    unfold f_X5_waits_L36_b
    rw [if_neg (show ¬ (128 : Int32) ≤ nI k from nI_ge (b := 128) (by omega) (by decide)), x_does ha hi (by omega), jb1_e, x_dal H (by omega), jb1_e, jlet_e, e99u hf (by omega), jb1_e, jlet_e, nI_1]
  · intro m; rfl
theorem m_wt32 (H : CM q c M) {F e : Nat} (hF : F ≤ 99) (hg : ∀ z, z < 128 → gi M 22 z = tm (mx T e z)) (hk : ∀ d, vec q c (c 1 0) 0 ≤ d → d ≤ 20 → (F ≤ d ↔ 1 ≤ mO T e (shf q c (vec q c (c 1 0)) d))) : ∀ (r d m : Nat), d + r = 21 → r < m → vec q c (c 1 0) 0 ≤ d → d ≤ F → f_X6_waits_L32 m (nI d) M = if F ≤ 20 then some (.inl (nI F, M)) else some (.inr (nI 21))
  | 0, d, m, hd, hm, h0, hdF => by
    obtain ⟨m', rfl⟩ : ∃ m', m = m' + 1 := ⟨m - 1, by omega⟩
    have e1 : d = 21 := by omega
    subst e1
    rw [if_neg (by omega)]
    rfl
  | r + 1, d, m, hd, hm, h0, hdF => by
    obtain ⟨m', rfl⟩ : ∃ m', m = m' + 1 := ⟨m - 1, by omega⟩
    have hb := mO_bd (T := T) (e := e) (W := shf q c (vec q c (c 1 0)) d)
    have u : f_X6_waits_L32 (m' + 1) (nI d) M = f_X6_waits_L32_b (f_X6_waits_L32 m') (nI d) M := rfl
    rw [u]
    unfold f_X6_waits_L32_b
    rw [if_neg (show ¬ (20 : Int32) < nI d from nI_nlt (a := 20) (by omega) (by decide)), m_shelf H (by omega), jb1_e, m_mostOf (shf_lt H.1) hg, jb1_e]
    by_cases w : F ≤ d
    · have := (hk d h0 (by omega)).mp w
      rw [if_neg (fun z => by have := (tm_neg (by omega)).mp z; omega), if_pos (by omega), show F = d by omega]
    · have : mO T e (shf q c (vec q c (c 1 0)) d) = 0 := by
        rcases Nat.eq_zero_or_pos (mO T e (shf q c (vec q c (c 1 0)) d)) with z | z
        · exact z
        · exact absurd ((hk d h0 (by omega)).mpr z) w
      rw [if_pos ((tm_neg (by omega)).mpr this), jlet_e, nI_1]
      exact m_wt32 H hF hg hk r (d + 1) m' (by omega) (by omega) (by omega) (by omega)
theorem uno_20 (hq : okP q) (hc : okC q c) {v : Nat → Nat} : shf q c v 20 = uno q v := jbtE fun i => by
  rw [shf_bit, uno_bit hq]
  by_cases w : i < q 0 1
  · have := cmg_le hq hc w
    simp [w, show cmg q c i ≤ 20 by omega]
  · simp [w]
theorem s_waits : kS_waits (Rl Q1) := by
  intro a1 Mx Mm R
  obtain ⟨q, c, H⟩ := R.2.2.2
  have b := vbd H.1 H.2.2.2.1
  unfold f_X5_waits f_X6_waits
  rcases jdeed q H.1 a1 0 (Or.inl rfl) with w | ⟨i, hi, rfl⟩
  · rw [x_hd_f H.2.1 w, m_hd_f H.1 H.2.2.1 w]
    exact ⟨-1, Mx, Mm, rfl, rfl, R⟩
  · rw [x_hd_t H.1 H.2.1 hi, jb1_e, if_neg j10, m_hd_t H.1 H.2.2.1 hi, jb1_e, if_neg j10, x_uno (H_cx H), jb1_e, show f_X6_shelfOn 20 Mm = some (nI (uno q (vec q c (c 1 0)))) from by
      rw [show (20 : Int32) = nI 20 from rfl, m_shelf (H_cm H) (by decide), uno_20 H.1 H.2.2.2.1], jb1_e]
    have hP := uno_lt H.1 (v := vec q c (c 1 0))
    have hPh : ∀ h, (uno q (vec q c (c 1 0))).testBit h = true → h < q 0 1 := fun h hh => by
      rw [uno_bit H.1] at hh
      simp at hh
      exact hh.1
    obtain ⟨Nx, Nr, Nm, a1, b1, c1, a2, c2, sx, sm, R2, H2⟩ := both R H (e := i + 1) hP hPh (by omega)
    rw [dI_s] at c1
    rw [a1, jb1_e, b1, jb1_e, c1, jb1_e, x_wt36 (H_cx H2) a2 (by omega), jb2_e, jlet_e, m12_0 (H_cm H2)]
    have hF := fwl_a (p := fun S => cd (dS (Tq q c (uno q (vec q c (c 1 0)))) i S)) (w := fun S => dal q c S (q 0 1)) (a := 99) 128
    have hFl : ∀ d, fwl (fun S => cd (dS (Tq q c (uno q (vec q c (c 1 0)))) i S)) (fun S => dal q c S (q 0 1)) 99 128 ≤ d ↔ 99 ≤ d ∨ ∃ k, k < 128 ∧ cd (dS (Tq q c (uno q (vec q c (c 1 0)))) i k) = true ∧ dal q c k (q 0 1) ≤ d := fun d => fwl_lt 128
    generalize fwl (fun S => cd (dS (Tq q c (uno q (vec q c (c 1 0)))) i S)) (fun S => dal q c S (q 0 1)) 99 128 = F at *
    have hF0 : vec q c (c 1 0) 0 ≤ F := by
      rcases (hFl F).mp (Nat.le_refl _) with w | ⟨k, k1, k2, k3⟩
      · omega
      · exact ((dal_le _).mp k3).1
    have hk : ∀ d, vec q c (c 1 0) 0 ≤ d → d ≤ 20 → (F ≤ d ↔ 1 ≤ mO (Tq q c (uno q (vec q c (c 1 0)))) (i + 1) (shf q c (vec q c (c 1 0)) d)) := by
      intro d d1 d2
      rw [hFl, mO_le (v := 0)]
      have key : ∀ S D, S < 128 → D < 64 → rD (Tq q c (uno q (vec q c (c 1 0)))) S D → (dif S (shf q c (vec q c (c 1 0)) d) = 0 ↔ dal q c S (q 0 1) ≤ d) := by
        intro S D hS hD h
        have hSP := Tq_P H.1 H.2.2.2.1 hS hD h
        rw [dif_0 hS, dal_le]
        constructor
        · intro w
          refine ⟨d1, fun z hz hb => ?_⟩
          have := w z hb
          rw [shf_bit] at this
          simp at this
          exact this.2.1
        · rintro ⟨_, w⟩ z hb
          have h1 := hSP z hb
          rw [uno_bit H.1, Bool.and_eq_true, decide_eq_true_iff] at h1
          rw [shf_bit, h1.2]
          simp [h1.1, w z h1.1 hb]
      constructor
      · rintro (w | ⟨S, s1, s2, s3⟩)
        · omega
        · obtain ⟨D, e1, e2, e3⟩ := cd_t.mp s2
          exact ⟨S, D, s1, (key S D s1 e1 e2).mpr s3, e1, e2, by unfold Ae; simp [e3], Nat.zero_le _⟩
      · rintro ⟨S, D, s1, s2, e1, e2, e3, _⟩
        exact Or.inr ⟨S, s1, cd_t.mpr ⟨D, e1, e2, by unfold Ae at e3; simpa using e3⟩, (key S D s1 e1 e2).mp s2⟩
    by_cases h21 : vec q c (c 1 0) 0 ≤ 20
    · have l := m_wt32 (H_cm H2) hF c2 hk (21 - vec q c (c 1 0) 0) (vec q c (c 1 0) 0) jfu (by omega) (by unfold jfu; omega) (Nat.le_refl _) hF0
      rw [l]
      unfold e99
      by_cases w : F ≤ 20
      · rw [if_pos w, if_neg (show ¬ F = 99 by omega), if_pos (show nI F ≤ (20 : Int32) from nI_le (b := 20) w (by decide))]
        exact ⟨nI F, Nx, Nm, rfl, rfl, R2⟩
      · rw [if_neg w]
        refine ⟨-9, Nx, Nm, ?_, rfl, R2⟩
        by_cases z : F = 99
        · rw [if_pos z]; rfl
        · rw [if_neg z, if_neg (show ¬ nI F ≤ (20 : Int32) from nI_ge (a := 20) (by omega) (by omega))]
    · have u : f_X6_waits_L32 jfu (nI (vec q c (c 1 0) 0)) Nm = some (.inr (nI (vec q c (c 1 0) 0))) := by
        show f_X6_waits_L32_b (f_X6_waits_L32 29999) _ Nm = _
        unfold f_X6_waits_L32_b
        rw [if_pos (show (20 : Int32) < nI _ from nI_lt (a := 20) (by omega) (by omega))]
      rw [u]
      refine ⟨-9, Nx, Nm, ?_, rfl, R2⟩
      unfold e99
      by_cases z : F = 99
      · rw [if_pos z]; rfl
      · rw [if_neg z, if_neg (show ¬ nI F ≤ (20 : Int32) from nI_ge (a := 20) (by omega) (by omega))]
/-! odds -/
theorem up1 {P S D h : Nat} (hS : S < 128) (hD : D < 64) (hh : h < q 0 1) (hPh : P.testBit h = true) (hSh : S.testBit h = false) {s : Nat} (hr : rD (clo (Eg q P) s) S D) : rD (clo (Eg q P) s) (S ||| 2 ^ h) D := by
  obtain ⟨g, hg, hr⟩ := hr
  obtain ⟨c1, c2, c3, c4⟩ := cs_d hS hD hg
  refine ⟨gpb q g 0, by have := gpb_le (q := q) g 0; omega, clo_e hr ⟨h, 0, hh, Nat.zero_le _, ?_, ?_⟩⟩
  · unfold ldx; rw [c1, hPh, hSh]; rfl
  · unfold bhx; rw [c1, c2, c3]
    show _ = 192 * (S ||| 2 ^ h) + 3 * (D ||| 0) + _
    rw [Nat.or_zero]; rfl
theorem upW (h7 : q 0 1 ≤ 7) {P S W D s : Nat} (hS : S < 128) (hW : W < 128) (hD : D < 64) (hPh : ∀ h, P.testBit h = true → h < q 0 1) (hSW : ∀ i, S.testBit i = true → W.testBit i = true) (hWP : ∀ i, W.testBit i = true → P.testBit i = true) (hr : rD (clo (Eg q P) s) S D) : rD (clo (Eg q P) s) W D := by
  have key : ∀ k, k ≤ 7 → ∃ S', S' < 128 ∧ rD (clo (Eg q P) s) S' D ∧ ∀ i, S'.testBit i = (S.testBit i || (decide (i < k) && W.testBit i)) := by
    intro k
    induction k with
    | zero => exact fun _ => ⟨S, hS, hr, fun i => by simp⟩
    | succ k ih =>
      intro hk
      obtain ⟨S', s1, s2, s3⟩ := ih (by omega)
      by_cases w : W.testBit k = true ∧ S'.testBit k = false
      · refine ⟨S' ||| 2 ^ k, jor7 s1 (by omega), up1 s1 hD (hPh k (hWP k w.1)) (hWP k w.1) w.2 s2, fun i => ?_⟩
        rw [Nat.testBit_or, Nat.testBit_two_pow, s3]
        by_cases e : k = i
        · subst e; simp [w.1]
        · have e2 : decide (i < k + 1) = decide (i < k) := by
            by_cases z : i < k
            · simp [z, show i < k + 1 by omega]
            · simp [z, show ¬ i < k + 1 by omega]
          rw [e2]; simp [e]
      · refine ⟨S', s1, s2, fun i => ?_⟩
        by_cases e : k = i
        · subst e
          have s4 := s3 k
          rw [s4]
          cases wk : W.testBit k with
          | false => simp
          | true =>
            cases sk : S'.testBit k with
            | false => exact absurd ⟨wk, sk⟩ w
            | true =>
              have s5 : S.testBit k = true := by
                rw [sk] at s4
                simpa using s4.symm
              rw [s5]; simp
        · have e2 : decide (i < k + 1) = decide (i < k) := by
            by_cases z : i < k
            · simp [z, show i < k + 1 by omega]
            · simp [z, show ¬ i < k + 1 by omega]
          rw [e2]; exact s3 i
  obtain ⟨S', s1, s2, s3⟩ := key 7 (Nat.le_refl _)
  have : S' = W := jbtE fun i => by
    rw [s3]
    by_cases z : i < 7
    · cases wk : W.testBit i with
      | true => simp [z]
      | false =>
        cases sk : S.testBit i with
        | false => simp
        | true => have := hSW i sk; rw [wk] at this; exact absurd this Bool.false_ne_true
    · rw [tb7 hS (by omega), tb7 hW (by omega)]; simp
  rw [← this]; exact s2
def hv : Nat → Nat → Nat × Nat
  | 0, n => (n, 0)
  | e + 1, n => if n % 2 = 0 then hv e (n / 2) else (n, e + 1)
theorem hv_le : ∀ e n, (hv e n).1 ≤ n ∧ (hv e n).2 ≤ e
  | 0, n => ⟨Nat.le_refl _, Nat.le_refl _⟩
  | e + 1, n => by
    show (if n % 2 = 0 then hv e (n / 2) else (n, e + 1)).1 ≤ n ∧ (if n % 2 = 0 then hv e (n / 2) else (n, e + 1)).2 ≤ e + 1
    by_cases w : n % 2 = 0
    · rw [if_pos w]
      have := hv_le e (n / 2)
      omega
    · rw [if_neg w]; exact ⟨Nat.le_refl _, Nat.le_refl _⟩
theorem p2lt {e : Nat} (h : e ≤ 7) : 2 ^ e < 1000 := Nat.lt_of_le_of_lt (Nat.pow_le_pow_right (by decide) h) (by decide)
theorem m_od84 : ∀ (e m n : Nat), e ≤ 7 → n < 1000 → e < m → f_X6_odds_L84 m (nI n) (nI (2 ^ e)) M = some (nI (hv e n).1, nI (2 ^ (hv e n).2))
  | 0, m, n, he, hn, hm => by
    obtain ⟨m', rfl⟩ : ∃ m', m = m' + 1 := ⟨m - 1, by omega⟩
    show f_X6_odds_L84_b (f_X6_odds_L84 m') _ _ M = _
    unfold f_X6_odds_L84_b
    rw [if_pos (show nI (2 ^ 0) ≤ (1 : Int32) by decide)]
    split <;> rfl
  | e + 1, m, n, he, hn, hm => by
    obtain ⟨m', rfl⟩ : ∃ m', m = m' + 1 := ⟨m - 1, by omega⟩
    have hp := p2lt he
    have hp1 : 2 ^ (e + 1) = 2 * 2 ^ e := by rw [Nat.pow_succ]; omega
    have hp2 : 0 < 2 ^ e := Nat.two_pow_pos e
    show f_X6_odds_L84_b (f_X6_odds_L84 m') _ _ M = some (nI (if n % 2 = 0 then hv e (n / 2) else (n, e + 1)).1, nI (2 ^ (if n % 2 = 0 then hv e (n / 2) else (n, e + 1)).2))
    unfold f_X6_odds_L84_b
    rw [show (2 : Int32) = nI 2 from rfl, pk_rem (show n < 2 ^ 31 by omega) (by decide) (by decide), pk_div (show n < 2 ^ 31 by omega) (by decide) (by decide), pk_div (show 2 ^ (e + 1) < 2 ^ 31 by omega) (by decide) (by decide), if_neg (show ¬ nI (2 ^ (e + 1)) ≤ (1 : Int32) from nI_ge (a := 1) (by omega) (by omega)), jlet_e, jlet_e]
    rcases Nat.mod_two_eq_zero_or_one n with w | w
    · rw [w, if_pos (show nI 0 = 0 from rfl), if_pos rfl, show 2 ^ (e + 1) / 2 = 2 ^ e by omega]
      exact m_od84 e m' (n / 2) (by omega) (by omega) (by omega)
    · rw [w, if_neg (show ¬ nI 1 = 0 by decide), if_neg (by omega)]
theorem x_od54 : ∀ (e m n k : Nat), k + e ≤ 7 → n < 1000 → e < m → ∃ k', f_X5_odds_L54 m (lN n) (lN (2 ^ e)) (nI k) M = some (lN (hv e n).1, lN (2 ^ (hv e n).2), k')
  | 0, m, n, k, he, hn, hm => by
    obtain ⟨m', rfl⟩ : ∃ m', m = m' + 1 := ⟨m - 1, by omega⟩
    refine ⟨nI k, ?_⟩
    show f_X5_odds_L54_b (f_X5_odds_L54 m') _ _ _ M = _
    unfold f_X5_odds_L54_b
    rw [show (2 : Int64) = lN 2 from rfl, pk_lRem (a := 2 ^ 0) (by decide) (by decide) (by decide), if_neg (show ¬ lg_cmp (lN (2 ^ 0 % 2)) 0 = 0 by decide)]
    split
    · rfl
    · split <;> rfl
  | e + 1, m, n, k, he, hn, hm => by
    obtain ⟨m', rfl⟩ : ∃ m', m = m' + 1 := ⟨m - 1, by omega⟩
    have hp := p2lt (show e + 1 ≤ 7 by omega)
    have hp1 : 2 ^ (e + 1) = 2 * 2 ^ e := by rw [Nat.pow_succ]; omega
    show ∃ k', f_X5_odds_L54_b (f_X5_odds_L54 m') _ _ _ M = some (lN (if n % 2 = 0 then hv e (n / 2) else (n, e + 1)).1, lN (2 ^ (if n % 2 = 0 then hv e (n / 2) else (n, e + 1)).2), k')
    unfold f_X5_odds_L54_b
    rw [if_neg (show ¬ (7 : Int32) ≤ nI k from nI_ge (b := 7) (by omega) (by decide)), show (2 : Int64) = lN 2 from rfl, pk_lRem (show n < 2 ^ 63 by omega) (by decide) (by decide), pk_lRem (show 2 ^ (e + 1) < 2 ^ 63 by omega) (by decide) (by decide), pk_lDiv (show n < 2 ^ 63 by omega) (by decide) (by decide), pk_lDiv (show 2 ^ (e + 1) < 2 ^ 63 by omega) (by decide) (by decide), jlet_e, jlet_e, jlet_e, nI_1, show 2 ^ (e + 1) % 2 = 0 by omega, show 2 ^ (e + 1) / 2 = 2 ^ e by omega]
    rcases Nat.mod_two_eq_zero_or_one n with w | w
    · rw [w, if_pos (show lg_cmp (lN 0) 0 = 0 by decide), if_pos (show lg_cmp (lN 0) 0 = 0 by decide), if_pos rfl]
      exact x_od54 e m' (n / 2) (k + 1) (by omega) (by omega) (by omega)
    · rw [w, if_neg (show ¬ lg_cmp (lN 1) 0 = 0 by decide), if_neg (by omega)]
      exact ⟨_, rfl⟩
theorem one_shl7 : ∀ p, p < 8 → (1 : Int64) <<< ((nI p).toInt64 &&& 63) = lN (2 ^ p) := by decide +kernel
theorem rl_odds (R : Rl Q1 Mx Mm) (a b : Int64) : Rl Q1 (sl (sl Mx 0 11 a) 0 12 b) (sl (sl Mm 0 17 a) 0 18 b) := by
  obtain ⟨⟨h1, h2, h3, h4, h5⟩, hr, ht, hq⟩ := R
  have sx : ∀ j, j ≠ 0 → stX j Mx (sl (sl Mx 0 11 a) 0 12 b) := fun j hj => stX_tr (stX_sl (fun q => hj (q.symm.trans rfl))) (stX_sl (fun q => hj (q.symm.trans rfl)))
  have sm : ∀ j, j ≠ 0 → stM j Mm (sl (sl Mm 0 17 a) 0 18 b) := fun j hj => stM_tr (stM_sl (fun q => hj (q.symm.trans rfl))) (stM_sl (fun q => hj (q.symm.trans rfl)))
  refine ⟨⟨h1, h2, ?_, ?_, h5⟩, rr_stay (sx 1 (by decide)) (sm 1 (by decide)) hr, rt_stay (sx 2 (by decide)) (sm 2 (by decide)) ht, Q1_stay _ _ _ _ (fun j hj => ⟨sx j (by omega), sm j (by omega)⟩) hq⟩
  · simp [gl_sl]
  · simp [gl_sl]
theorem s_odds : kS_odds (Rl Q1) := by
  intro a1 Mx Mm R
  obtain ⟨q, c, H⟩ := R.2.2.2
  have b := vbd H.1 H.2.2.2.1
  unfold f_X5_odds f_X6_odds
  rcases jdeed q H.1 a1 0 (Or.inl rfl) with w | ⟨i, hi, rfl⟩
  · rw [x_hd_f H.2.1 w, m_hd_f H.1 H.2.2.1 w]
    exact ⟨-1, Mx, Mm, rfl, rfl, R⟩
  · rw [x_hd_t H.1 H.2.1 hi, jb1_e, if_neg j10, m_hd_t H.1 H.2.2.1 hi, jb1_e, if_neg j10, x_shelf (H_cx H), jb1_e, m12_0 (H_cm H), m_shelf (H_cm H) (by omega), jb1_e]
    have hP := shf_lt (c := c) (v := vec q c (c 1 0)) (d := vec q c (c 1 0) 0) H.1
    have hPh := shf_h (q := q) (c := c) (v := vec q c (c 1 0)) (d := vec q c (c 1 0) 0)
    generalize shf q c (vec q c (c 1 0)) (vec q c (c 1 0) 0) = P at *
    obtain ⟨Nx, Nr, Nm, a1, b1, c1, a2, c2, sx, sm, R2, H2⟩ := both R H (e := i + 1) hP hPh (by omega)
    rw [dI_s] at c1
    have hp7 := pc_le P
    have ep : cnt (fun S => decide (dif S P = 0) && !(decide (mO (Tq q c P) (i + 1) S = 0))) 128 = cnt (fun S => cd (dS (Tq q c P) i S)) 128 := cnt_cg (fun S hS => by
      by_cases z : dS (Tq q c P) i S
      · obtain ⟨D, e1, e2, e3⟩ := z
        have hz : 1 ≤ mO (Tq q c P) (i + 1) S := (mO_le (v := 0)).mpr ⟨S, D, hS, (dif_0 hS).mpr (fun _ h => h), e1, e2, by unfold Ae; simp [e3], Nat.zero_le _⟩
        rw [cd_tt ⟨D, e1, e2, e3⟩, (dif_0 hS).mpr (Tq_P H.1 H.2.2.2.1 hS e1 e2), decide_eq_false (show ¬ mO (Tq q c P) (i + 1) S = 0 by omega)]; rfl
      · rw [cd_ff z]
        by_cases u : dif S P = 0
        · by_cases y : mO (Tq q c P) (i + 1) S = 0
          · rw [u, y]; rfl
          · obtain ⟨S', D, s1, s2, e1, e2, e3, _⟩ := (mO_le (v := 0)).mp (Nat.pos_of_ne_zero y)
            exact absurd ⟨D, e1, upW b.2.2.2.2.2.2.1 s1 hS e1 hPh ((dif_0 s1).mp s2) ((dif_0 hS).mp u) e2, by unfold Ae at e3; simpa using e3⟩ z
        · rw [decide_eq_false u]; rfl)
    have hcn := cnt_le (fun S => cd (dS (Tq q c P) i S)) 128
    rw [a1, jb1_e, b1, jb1_e, c1, jb1_e, x_sef a2 (by omega), jb1_e, x_bc hP, jb1_e, jlet_e, one_shl7 _ (by omega), m_odd36 hP c2, jb2_e, ep, m_on hP, jb1_e, jlet_e, jshl _ (by omega)]
    generalize cnt (fun S => cd (dS (Tq q c P) i S)) 128 = n at *
    obtain ⟨k', k1⟩ := x_od54 (M := Nx) (pc P) jfu n 0 (by omega) (by omega) (by unfold jfu; omega)
    have k1 : f_X5_odds_L54 jfu (lN n) (lN (2 ^ pc P)) 0 Nx = _ := k1
    have hh := hv_le (pc P) n
    have h2 := p2lt (show (hv (pc P) n).2 ≤ 7 by omega)
    rw [nI_l (show n < 2 ^ 31 by omega), k1, jb3_e, m_od84 (M := Nm) (pc P) jfu n (by omega) (by omega) (by unfold jfu; omega), jb2_e, nI_l (show (hv (pc P) n).1 < 2 ^ 31 by omega), nI_l (show 2 ^ (hv (pc P) n).2 < 2 ^ 31 by omega), jlet_e, jlet_e, jlet_e, jlet_e]
    exact ⟨1, _, _, rfl, rfl, rl_odds R2 _ _⟩
end JY
