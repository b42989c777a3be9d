/-! orders: the class's winning states, and the order written out -/
section KA
variable {q c : Nat → Nat → Nat} {M N K Mx Mm Nx Nm : jM} {P i : Nat}
theorem Lb_ushr {x : Int64} {d D : Nat} (hd : d < 64) : Lb ((x.toUInt64 >>> ((nI d).toInt64.toUInt64 &&& Int64.toUInt64 63)).toInt64) D ↔ Lb x (d + D) := by
  have e : ∀ d, d < 64 → (((nI d).toInt64.toUInt64 &&& Int64.toUInt64 63).toBitVec % 64).toNat = d := by decide +kernel
  unfold Lb
  show ((x.toUInt64 >>> ((nI d).toInt64.toUInt64 &&& Int64.toUInt64 63)).toBitVec.getLsbD D = true) ↔ _
  rw [UInt64.toBitVec_shiftRight, BitVec.ushiftRight_eq', e d hd, BitVec.getLsbD_ushiftRight]
  exact Iff.rfl
theorem one_bit : ∀ D, D < 64 → (1 : Int64).toBitVec.getLsbD D = decide (D = 0) := by decide +kernel
theorem and_one {y : Int64} : lg_cmp (y &&& 1) 1 = 0 ↔ Lb y 0 := by
  rw [jlg_eq]
  constructor
  · intro h
    have h1 : Lb (y &&& 1) 0 := by rw [h]; unfold Lb; rw [one_bit 0 (by decide)]; rfl
    exact (Lb_and.mp h1).1
  · intro h
    apply Int64.toBitVec_inj.mp
    apply BitVec.eq_of_getLsbD_eq
    intro j hj
    rw [Int64.toBitVec_and, BitVec.getLsbD_and, one_bit j hj]
    by_cases e : j = 0
    · subst e
      unfold Lb at h
      rw [h]; rfl
    · simp [e]
theorem x_wbL {S g : Nat} (hS : S < 128) (hg : g ≤ 2) : ∀ (r L k m : Nat) (y : Int64), pc L = r → r + k ≤ 7 → L < 128 → r < m → ∃ z a b, f_X1_winningBy_L13 m (nI S) (nI g) y (nI L) (nI k) M = some (z, a, b) ∧ ∀ d, Lb z d ↔ Lb y d ∨ ∃ h, h < 7 ∧ L.testBit h = true ∧ Lb (gl M 67 ((S ||| 2 ^ h) * 3 + g)) d
  | 0, L, k, m, y, hp, hk, hL, hm => by
    obtain ⟨m', rfl⟩ : ∃ m', m = m' + 1 := ⟨m - 1, by omega⟩
    have e : L = 0 := (pc_z L hL).mp hp
    subst e
    refine ⟨y, nI 0, nI k, ?_, fun d => ⟨Or.inl, fun w => w.resolve_right (fun ⟨h, _, h2, _⟩ => by simp at h2)⟩⟩
    show f_X1_winningBy_L13_b (f_X1_winningBy_L13 m') _ _ _ _ _ M = _
    unfold f_X1_winningBy_L13_b
    by_cases w : (7 : Int32) ≤ nI k
    · rw [if_pos w]
    · rw [if_neg w, if_pos (show nI 0 = 0 from rfl)]
  | r + 1, L, k, m, y, hp, hk, hL, hm => by
    obtain ⟨m', rfl⟩ : ∃ m', m = m' + 1 := ⟨m - 1, by omega⟩
    have e0 : L ≠ 0 := fun w => by rw [(pc_z L hL).mpr w] at hp; omega
    obtain ⟨l1, l2, l3, l4⟩ := lo_sub L hL e0
    have l5 := lo_spec L hL e0
    have l6 := lo_bit L hL e0
    have o7 := jor7 (a := S) (h := lo L) hS l5.1
    obtain ⟨z, a, b, i1, i2⟩ := x_wbL hS hg r (L - 2 ^ lo L) (k + 1) m' (y ||| gl M 67 ((S ||| 2 ^ lo L) * 3 + g)) (by omega) (by omega) l4 (by omega)
    refine ⟨z, a, b, ?_, fun d => ?_⟩
    · show f_X1_winningBy_L13_b (f_X1_winningBy_L13 m') _ _ _ _ _ M = _
      unfold f_X1_winningBy_L13_b
      rw [if_neg (show ¬ (7 : Int32) ≤ nI k from nI_ge (b := 7) (by omega) (by decide)), if_neg (nI_ne0 (by omega) (by omega)), l1, jlet_e, l2, jlet_e, jor, show (3 : Int32) = nI 3 from rfl, pk_mul, nI_add, jg_t (jin_nI (show (S ||| 2 ^ lo L) * 3 + g < 384 by omega) (by decide)), nI_clamp (show (S ||| 2 ^ lo L) * 3 + g < 2 ^ 31 by omega), jlet_e, jlet_e, nI_1, i1]
    · rw [i2, Lb_or]
      constructor
      · rintro ((w | w) | ⟨h, h1, h2, h3⟩)
        · exact Or.inl w
        · exact Or.inr ⟨lo L, l5.1, l5.2.1, w⟩
        · rw [l6 h h1, Bool.and_eq_true] at h2
          exact Or.inr ⟨h, h1, h2.1, h3⟩
      · rintro (w | ⟨h, h1, h2, h3⟩)
        · exact Or.inl (Or.inl w)
        · by_cases w : h = lo L
          · subst w; exact Or.inl (Or.inr h3)
          · refine Or.inr ⟨h, h1, ?_, h3⟩
            rw [l6 h h1, h2]; simp [w]
theorem x_wb {S g H : Nat} (hS : S < 128) (hg : g ≤ 2) (hH : H < 128) : ∃ z, f_X1_winningBy (nI S) (nI g) (nI H) M = some z ∧ ∀ d, Lb z d ↔ ∃ h, h < 7 ∧ H.testBit h = true ∧ S.testBit h = false ∧ Lb (gl M 67 ((S ||| 2 ^ h) * 3 + g)) d := by
  have p7 := pc_le (dif H S)
  obtain ⟨z, a, b, i1, i2⟩ := x_wbL (M := M) hS hg (pc (dif H S)) (dif H S) 0 jfu 0 rfl (by omega) (dif_lt hH) (by unfold jfu; omega)
  have i1 : f_X1_winningBy_L13 jfu (nI S) (nI g) 0 (nI (dif H S)) 0 M = _ := i1
  refine ⟨z, ?_, fun d => ?_⟩
  · unfold f_X1_winningBy
    rw [jdif hH hS, jlet_e, i1]; rfl
  · rw [i2]
    constructor
    · rintro (w | ⟨h, h1, h2, h3⟩)
      · exact absurd w Lb_0
      · rw [dif_bit hH, Bool.and_eq_true, Bool.not_eq_true'] at h2
        exact ⟨h, h1, h2.1, h2.2, h3⟩
    · rintro ⟨h, h1, h2, h3, h4⟩
      exact Or.inr ⟨h, h1, by rw [dif_bit hH, h2, h3]; rfl, h4⟩
def Wi (q : Nat → Nat → Nat) (P S g : Nat) (M : jM) (j D : Nat) : Prop := hun q j g = true ∧ Lb (lN (rdy q j)) D ∧ ∃ h, h < 7 ∧ (P &&& sui q j).testBit h = true ∧ S.testBit h = false ∧ Lb (gl M 67 ((S ||| 2 ^ h) * 3 + gpb q g (j + 1))) (2 ^ j + D)
theorem x_waL (hq : okP q) (hx : hX q M) (hp : gi M 65 3 = nI P) {S g : Nat} (hS : S < 128) (hg : g ≤ 2) (hP : P < 128) : ∀ (r j m : Nat) (y : Int64), j + r = q 0 0 → r < m → ∃ z, f_X1_winningAhead_L20 m (nI S) (nI g) y (nI j) M = some (z, nI (q 0 0)) ∧ ∀ D, Lb z D ↔ Lb y D ∨ ∃ k, j ≤ k ∧ k < q 0 0 ∧ Wi q P S g M k D
  | 0, j, m, y, hj, hm => by
    obtain ⟨m', rfl⟩ : ∃ m', m = m' + 1 := ⟨m - 1, by omega⟩
    have h6 := hq.1
    have e : j = q 0 0 := by omega
    refine ⟨y, ?_, fun D => ⟨Or.inl, fun w => w.resolve_right (fun ⟨k, h1, h2, _⟩ => by omega)⟩⟩
    show f_X1_winningAhead_L20_b (f_X1_winningAhead_L20 m') _ _ _ _ M = _
    unfold f_X1_winningAhead_L20_b
    rw [hx.1, e, if_pos (nI_le (Nat.le_refl _) (by omega))]
  | r + 1, j, m, y, hj, hm => by
    obtain ⟨m', rfl⟩ : ∃ m', m = m' + 1 := ⟨m - 1, by omega⟩
    have h6 := hq.1
    have h7 := hq.2.1
    obtain ⟨a1, a2, a3, a4, a5, a6⟩ := hx.2.2.1 j (by omega)
    have p64 : 2 ^ j < 64 := Nat.lt_of_lt_of_le (Nat.pow_lt_pow_right (by decide) (show j < 6 by omega)) (by decide)
    have hst : ∃ z, (if b2 (hun q j g) = 0 then some y else jb1 (f_X1_gapBehind (nI g) (nI j) M) fun r18 => jg (jin (nI j) 6) (jb1 (f_X1_winningBy (nI S) r18 (gi M 65 3 &&& gi M 38 (nI j).toNatClampNeg) M) fun r21 => jb1 (f_X1_deedBit (nI j) M) fun r23 => jg (jin (nI j) 6) (jlet (y ||| ((r21.toUInt64 >>> (r23.toInt64.toUInt64 &&& Int64.toUInt64 63)).toInt64 &&& gl M 37 (nI j).toNatClampNeg)) fun v26 => some v26))) = some z ∧ ∀ D, Lb z D ↔ Lb y D ∨ Wi q P S g M j D := by
      rw [b2_if]
      cases hh : hun q j g with
      | false => exact ⟨y, if_neg Bool.false_ne_true, fun D => ⟨Or.inl, fun w => w.resolve_right (fun u => by have := u.1; rw [hh] at this; exact Bool.false_ne_true this)⟩⟩
      | true =>
        have hsu : P &&& sui q j < 128 := Nat.lt_of_le_of_lt Nat.and_le_left hP
        obtain ⟨z, z1, z2⟩ := x_wb (M := M) hS (gpb_le (q := q) g (j + 1)) hsu
        have g1 : f_X1_gapBehind (nI g) (nI j) M = some (nI (gpb q g (j + 1))) := x_gap hq hx (e := j + 1) (by omega) (by omega)
        have g2 : f_X1_deedBit (nI j) M = some (nI (dbt (j + 1))) := x_dbt (e := j + 1) (by omega)
        rw [if_pos rfl, g1, jb1_e, g2, nI_clamp (show j < 2 ^ 31 by omega), hp, a6, jand, z1, jb1_e, jb1_e, jg_t (jin_nI (show j < 6 by omega) (by decide)), jg_t (jin_nI (show j < 6 by omega) (by decide)), jlet_e, a5, show dbt (j + 1) = 2 ^ j from by unfold dbt; rw [if_neg (by omega), Nat.add_sub_cancel]]
        refine ⟨_, rfl, fun D => ?_⟩
        rw [Lb_or, Lb_and, Lb_ushr p64, z2]
        refine or_congr Iff.rfl ⟨?_, ?_⟩
        · rintro ⟨w1, w2⟩; exact ⟨hh, w2, w1⟩
        · rintro ⟨_, w2, w1⟩; exact ⟨w1, w2⟩
    obtain ⟨z, z1, z2⟩ := hst
    obtain ⟨u, u1, u2⟩ := x_waL hq hx hp hS hg hP r (j + 1) m' z (by omega) (by omega)
    refine ⟨u, ?_, fun D => ?_⟩
    · show f_X1_winningAhead_L20_b (f_X1_winningAhead_L20 m') _ _ _ _ M = _
      unfold f_X1_winningAhead_L20_b
      rw [hx.1, if_neg (nI_ge (show j < q 0 0 by omega) (by omega)), x_hungry hq hx (by omega) (by omega), jb1_e, z1, jb1_e, jlet_e, nI_1, u1]
    · rw [u2, z2]
      constructor
      · rintro ((w | w) | ⟨k, h1, h2, w⟩)
        · exact Or.inl w
        · exact Or.inr ⟨j, Nat.le_refl _, by omega, w⟩
        · exact Or.inr ⟨k, by omega, h2, w⟩
      · rintro (w | ⟨k, h1, h2, w⟩)
        · exact Or.inl (Or.inl w)
        · by_cases e : k = j
          · subst e; exact Or.inl (Or.inr w)
          · exact Or.inr ⟨k, by omega, h2, w⟩
theorem x_wa (hq : okP q) (hx : hX q M) (hp : gi M 65 3 = nI P) {S g : Nat} (hS : S < 128) (hg : g < 3) (hP : P < 128) (hPh : ∀ h, P.testBit h = true → h < q 0 1) : ∃ z, f_X1_winningAhead (nI S) (nI g) M = some z ∧ ∀ D, D < 64 → (Lb z D ↔ ∃ h e, h < q 0 1 ∧ e ≤ q 0 0 ∧ ldx q P (cs S D g) h e = true ∧ Lb (gl M 67 ((S ||| 2 ^ h) * 3 + gpb q g e)) (D ||| dbt e)) := by
  have h6 := hq.1
  have h7 := hq.2.1
  obtain ⟨y, y1, y2⟩ := x_wb (M := M) hS (gpb_le (q := q) g 0) hP
  obtain ⟨z, z1, z2⟩ := x_waL hq hx hp hS (show g ≤ 2 by omega) hP (q 0 0) 0 jfu y (by omega) (by unfold jfu; omega)
  have z1 : f_X1_winningAhead_L20 jfu (nI S) (nI g) y 0 M = _ := z1
  refine ⟨z, ?_, fun D hD => ?_⟩
  · unfold f_X1_winningAhead
    rw [← dI0, x_gap hq hx (by omega) (Nat.zero_le _), jb1_e, hp, y1, jb1_e, z1]; rfl
  · rw [z2, y2]
    constructor
    · rintro (⟨h, h1, h2, h3, h4⟩ | ⟨j, _, hj, w1, w5, ⟨h, h1, h2, h3, h4⟩⟩)
      · refine ⟨h, 0, hPh h h2, Nat.zero_le _, ?_, by unfold dbt; rw [if_pos rfl, Nat.or_zero]; exact h4⟩
        unfold ldx
        rw [(cs_d hS hD hg).1, h2, h3]; rfl
      · obtain ⟨r1, r2, r3⟩ := (rdy_bit hD).mp w5
        rw [Nat.testBit_and, Bool.and_eq_true] at h2
        obtain ⟨u1, u2, u3⟩ := sui_bit.mp h2.2
        refine ⟨h, j + 1, u1, hj, ?_, ?_⟩
        · unfold ldx
          rw [(cs_d hS hD hg).1, (cs_d hS hD hg).2.1, (cs_d hS hD hg).2.2.1, h2.1, h3, Nat.add_sub_cancel]
          have := (hin_z (q := q) (i := j) (h := h) (D := D) (g := g)).mpr ⟨r1, r2, u2, u3, w1, r3⟩
          simp [this]
        · unfold dbt
          rw [if_neg (by omega), Nat.add_sub_cancel, or_add _ hD _ (by omega) r1, Nat.add_comm D]; exact h4
    · rintro ⟨h, e, hh, he, w2, w3⟩
      obtain ⟨l1, l2, l3⟩ := ldx_b w2
      rw [(cs_d hS hD hg).1] at l2
      cases e with
      | zero =>
        left
        unfold dbt at w3
        rw [if_pos rfl, Nat.or_zero] at w3
        exact ⟨h, by omega, l1, l2, w3⟩
      | succ j =>
        right
        rw [(cs_d hS hD hg).2.1, (cs_d hS hD hg).2.2.1, Nat.add_sub_cancel] at l3
        obtain ⟨z1, z2, z3, z4, z5, z6⟩ := hin_z.mp (l3.resolve_left (by omega))
        refine ⟨j, Nat.zero_le _, he, z5, (rdy_bit hD).mpr ⟨z1, z2, z6⟩, h, by omega, ?_, l2, ?_⟩
        · rw [Nat.testBit_and, l1, sui_bit.mpr ⟨hh, z3, z4⟩]; rfl
        · unfold dbt at w3
          rw [if_neg (by omega), Nat.add_sub_cancel, or_add _ hD _ (by omega) z1, Nat.add_comm D] at w3
          exact w3
def wC (q : Nat → Nat → Nat) (P i s n S g : Nat) (y : Int64) : Prop := ∀ D, D < 64 → clo (Eg q P) s (cs S D g) → pc S ≤ n → (Lb y D ↔ pth q P i (n - pc S) (cs S D g))
def wK (q : Nat → Nat → Nat) (P i s n S0 : Nat) (M : jM) : Prop := ∀ S g, S0 ≤ S → S < 128 → g < 3 → wC q P i s n S g (gl M 67 (S * 3 + g))
theorem x_fwG (hq : okP q) (hx : hX q M) (hp : gi M 65 3 = nI P) {s n S g : Nat} (hs : s < 192) (hi : i < 6) (hn : n ≤ 7) (hS : S < 128) (hg : g < 3) (hP : P < 128) (hPh : ∀ h, P.testBit h = true → h < q 0 1) (ha : arL M (clo (Eg q P) s)) (hK : wK q P i s n (S + 1) M) : ∃ y, (if nI n < nI (pc S) then jg (jin (nI (S * 3 + g)) 384) (jlet (sl M 67 (nI (S * 3 + g)).toNatClampNeg 0) fun M28 => some M28) else jg (jin (nI (S * 3 + g)) 384) (if lg_cmp (gl M 66 (nI (S * 3 + g)).toNatClampNeg) 0 = 0 then jg (jin (nI (S * 3 + g)) 384) (jlet (sl M 67 (nI (S * 3 + g)).toNatClampNeg 0) fun M45 => some M45) else jb1 (if nI (pc S) = nI n then jg (jin (nI i) 6) (some ((jsL 4).getD (nI i).toNatClampNeg 0)) else jb1 (f_X1_winningAhead (nI S) (nI g) M) fun r39 => some r39) fun v35 => jg (jin (nI (S * 3 + g)) 384) (jlet (sl M 67 (nI (S * 3 + g)).toNatClampNeg v35) fun M43 => some M43))) = some (sl M 67 (S * 3 + g) y) ∧ wC q P i s n S g y := by
  have h7 := hq.2.1
  have p7 := pc_le S
  simp only [jg_t (jin_nI (show S * 3 + g < 384 by omega) (by decide)), nI_clamp (show S * 3 + g < 2 ^ 31 by omega), jlet_e]
  by_cases w : n < pc S
  · rw [if_pos (nI_lt w (by omega))]
    exact ⟨0, rfl, fun D _ _ h => by omega⟩
  · rw [if_neg (nI_nlt (by omega) (by omega))]
    by_cases z : gl M 66 (S * 3 + g) = 0
    · rw [if_pos ((jlg_eq _ _).mpr z)]
      refine ⟨0, rfl, fun D hD hc _ => ?_⟩
      have := (ha S D g hS hD hg).mpr hc
      rw [z] at this
      exact absurd this Lb_0
    · rw [if_neg (fun u => z ((jlg_eq _ _).mp u))]
      by_cases u : pc S = n
      · rw [if_pos (show nI (pc S) = nI n by rw [u]), jg_t (jin_nI hi (by decide)), nI_clamp (show i < 2 ^ 31 by omega), jb1_e]
        refine ⟨_, rfl, fun D hD hc _ => ?_⟩
        rw [sw_Lb hi hD, u, Nat.sub_self]
        show _ ↔ (cs S D g / 3 % 64).testBit i = true
        rw [(cs_d hS hD hg).2.1]
      · rw [if_neg (fun v => u ((nI_eq (by omega) (by omega)).mp v))]
        obtain ⟨y, y1, y2⟩ := x_wa hq hx hp hS hg hP hPh
        rw [y1, jb1_e, jb1_e]
        refine ⟨y, rfl, fun D hD hc _ => ?_⟩
        obtain ⟨c1, c2, c3, c4⟩ := cs_d hS hD hg
        rw [y2 D hD, show n - pc S = (n - pc S - 1) + 1 by omega]
        show _ ↔ ∃ y, Eg q P (cs S D g) y ∧ pth q P i (n - pc S - 1) y
        have key : ∀ h e, h < q 0 1 → e ≤ q 0 0 → ldx q P (cs S D g) h e = true → (Lb (gl M 67 ((S ||| 2 ^ h) * 3 + gpb q g e)) (D ||| dbt e) ↔ pth q P i (n - pc S - 1) (bhx q (cs S D g) h e)) := by
          intro h e hh he hl
          obtain ⟨d1, d2, d3, d4⟩ := bhx_d hq c4 hh he
          rw [c1] at d1; rw [c2] at d2; rw [c3] at d3
          have l2 := (ldx_b hl).2.1
          rw [c1] at l2
          have hp1 := pc_or S hS h (by omega) l2
          have hgt := or_gt l2
          have h128 := jor7 (a := S) (h := h) hS (by omega)
          have hE : Eg q P (cs S D g) (bhx q (cs S D g) h e) := ⟨h, e, hh, he, hl, rfl⟩
          have hy := cs_x (bhx q (cs S D g) h e)
          rw [d1, d2, d3] at hy
          have hk := hK (S ||| 2 ^ h) (gpb q g e) (by omega) h128 (by have := gpb_le (q := q) g e; omega) (D ||| dbt e) (dbt_or hD (by have := hq.1; omega)) (by rw [hy]; exact clo_e hc hE) (by omega)
          rw [hy, hp1, show n - (pc S + 1) = n - pc S - 1 by omega] at hk
          exact hk
        constructor
        · rintro ⟨h, e, hh, he, hl, hb⟩
          exact ⟨_, ⟨h, e, hh, he, hl, rfl⟩, (key h e hh he hl).mp hb⟩
        · rintro ⟨y, ⟨h, e, hh, he, hl, rfl⟩, hb⟩
          exact ⟨h, e, hh, he, hl, (key h e hh he hl).mpr hb⟩
theorem x_fw16 (hq : okP q) {s n S : Nat} (hs : s < 192) (hi : i < 6) (hn : n ≤ 7) (hS : S < 128) (hP : P < 128) (hPh : ∀ h, P.testBit h = true → h < q 0 1) : ∀ (r g m : Nat) (M : jM), g + r = 3 → r < m → hX q M → gi M 65 3 = nI P → arL M (clo (Eg q P) s) → wK q P i s n (S + 1) M → (∀ g', g' < g → wC q P i s n S g' (gl M 67 (S * 3 + g'))) → ∃ N, f_X1_findWinning_L16 m (nI i) (nI n) (nI S) (nI (pc S)) (nI g) M = some (nI 3, N) ∧ wK q P i s n S N ∧ (∀ a k, gi N a k = gi M a k) ∧ ∀ a k, a ≠ 67 → gl N a k = gl M a k
  | 0, g, m, M, hg, hm, hx, hp, ha, hK, hC => by
    obtain ⟨m', rfl⟩ : ∃ m', m = m' + 1 := ⟨m - 1, by omega⟩
    have e : g = 3 := by omega
    subst e
    refine ⟨M, rfl, fun S' g' h1 h2 h3 => ?_, fun _ _ => rfl, fun _ _ _ => rfl⟩
    by_cases w : S' = S
    · subst w; exact hC g' h3
    · exact hK S' g' (by omega) h2 h3
  | r + 1, g, m, M, hg, hm, hx, hp, ha, hK, hC => by
    obtain ⟨m', rfl⟩ : ∃ m', m = m' + 1 := ⟨m - 1, by omega⟩
    obtain ⟨y, y1, y2⟩ := x_fwG hq hx hp hs hi hn hS (show g < 3 by omega) hP hPh ha hK
    have s3 : ∀ j, j ≠ 6 → stX j M (sl M 67 (S * 3 + g) y) := fun j hj => stX_sl (fun w => hj (w.symm.trans rfl))
    obtain ⟨N, n1, n2, n3, n4⟩ := x_fw16 hq hs hi hn hS hP hPh r (g + 1) m' (sl M 67 (S * 3 + g) y) (by omega) (by omega) (hX_st (s3 3 (by decide)) hx) hp (fun S' D' g' h1 h2 h3 => by
      rw [gl_sl, if_neg (fun w => absurd w.1 (by decide))]; exact ha S' D' g' h1 h2 h3) (fun S' g' h1 h2 h3 => by
      rw [gl_sl, if_neg (by omega)]; exact hK S' g' h1 h2 h3) (fun g' h => by
      by_cases e : g' = g
      · subst e; rw [gl_sl, if_pos ⟨rfl, rfl⟩]; exact y2
      · rw [gl_sl, if_neg (by omega)]; exact hC g' (by omega))
    refine ⟨N, ?_, n2, n3, fun a k ha => by rw [n4 a k ha, gl_sl, if_neg (fun w => ha w.1)]⟩
    show f_X1_findWinning_L16_b (f_X1_findWinning_L16 m') _ _ _ _ _ M = _
    unfold f_X1_findWinning_L16_b
    rw [if_neg (show ¬ (3 : Int32) ≤ nI g from nI_ge (b := 3) (by omega) (by decide)), show (3 : Int32) = nI 3 from rfl, pk_mul, nI_add, jlet_e, y1, jb1_e, jlet_e, nI_1, n1]
theorem x_fw3 (hq : okP q) {s n : Nat} (hs : s < 192) (hi : i < 6) (hn : n ≤ 7) (hP : P < 128) (hPh : ∀ h, P.testBit h = true → h < q 0 1) : ∀ (S m : Nat) (M : jM), S ≤ 128 → S < m → hX q M → gi M 65 3 = nI P → arL M (clo (Eg q P) s) → wK q P i s n S M → ∃ N, f_X1_findWinning_L3 m (nI i) (nI n) (tm S) M = some (-1, N) ∧ wK q P i s n 0 N ∧ (∀ a k, gi N a k = gi M a k) ∧ ∀ a k, a ≠ 67 → gl N a k = gl M a k
  | 0, m, M, hS, hm, hx, hp, ha, hK => by
    obtain ⟨m', rfl⟩ : ∃ m', m = m' + 1 := ⟨m - 1, by omega⟩
    exact ⟨M, rfl, hK, fun _ _ => rfl, fun _ _ _ => rfl⟩
  | S + 1, m, M, hS, hm, hx, hp, ha, hK => by
    obtain ⟨m', rfl⟩ : ∃ m', m = m' + 1 := ⟨m - 1, by omega⟩
    obtain ⟨N, n1, n2, n3, n4⟩ := x_fw16 hq hs hi hn (show S < 128 by omega) hP hPh 3 0 jfu M rfl (by decide) hx hp ha hK (fun g h => absurd h (Nat.not_lt_zero _))
    have n1 : f_X1_findWinning_L16 jfu (nI i) (nI n) (nI S) (nI (pc S)) 0 M = _ := n1
    have s3 : stX 3 M N := fun a k ha => ⟨n3 a k, n4 a k (fun w => by rw [w] at ha; exact absurd ha (by decide))⟩
    obtain ⟨K, k1, k2, k3, k4⟩ := x_fw3 hq hs hi hn hP hPh S m' N (by omega) (by omega) (hX_st s3 hx) (by rw [n3]; exact hp) (fun S' D' g' h1 h2 h3 => by
      rw [n4 _ _ (by decide)]; exact ha S' D' g' h1 h2 h3) n2
    refine ⟨K, ?_, k2, fun a k => (k3 a k).trans (n3 a k), fun a k ha => (k4 a k ha).trans (n4 a k ha)⟩
    show f_X1_findWinning_L3_b (f_X1_findWinning_L3 m') _ _ _ M = _
    unfold f_X1_findWinning_L3_b
    rw [tmS, if_neg (nI_pos (by omega)), x_bc (by omega), jb1_e, n1, jb2_e, jlet_e, show nI S + (-1 : Int32) = tm S from (Int32.sub_eq_add_neg ..).symm, k1]
theorem x_fw (hq : okP q) {s n : Nat} (hs : s < 192) (hi : i < 6) (hn : n ≤ 7) (hP : P < 128) (hPh : ∀ h, P.testBit h = true → h < q 0 1) (hx : hX q M) (hp : gi M 65 3 = nI P) (ha : arL M (clo (Eg q P) s)) : ∃ N, f_X1_findWinning (nI i) (nI n) M = some N ∧ wK q P i s n 0 N ∧ (∀ a k, gi N a k = gi M a k) ∧ ∀ a k, a ≠ 67 → gl N a k = gl M a k := by
  obtain ⟨N, n1, n2⟩ := x_fw3 hq hs hi hn hP hPh 128 jfu M (Nat.le_refl _) (by decide) hx hp ha (fun S g h1 h2 => by omega)
  have n1 : f_X1_findWinning_L3 jfu (nI i) (nI n) 127 M = _ := n1
  refine ⟨N, ?_, n2⟩
  unfold f_X1_findWinning
  rw [n1]; rfl
theorem x_isW (hq : okP q) (hx : hX q M) {S g d h e : Nat} (ho : ord P S g d M) (hS : S < 128) (hd : d < 64) (hg : g < 3) (hh : h < q 0 1) (he : e ≤ q 0 0) : f_X1_isWinning (nI h) (dI e) M = some (b2 (cd (Lb (gl M 67 ((S ||| 2 ^ h) * 3 + gpb q g e)) (d ||| dbt e)))) := by
  have h6 := hq.1
  have h7 := hq.2.1
  have o7 := jor7 (a := S) (h := h) hS (by omega)
  have g2 := gpb_le (q := q) g e
  have d6 := dbt_or (D := d) (e := e) hd (by omega)
  unfold f_X1_isWinning
  rw [ho.2.1, ho.2.2.1, ho.2.2.2, x_gap hq hx (by omega) he, jb1_e, jshl h (by omega), jor, show (3 : Int32) = nI 3 from rfl, pk_mul, nI_add, jlet_e, jg_t (jin_nI (show (S ||| 2 ^ h) * 3 + gpb q g e < 384 by omega) (by decide)), nI_clamp (show (S ||| 2 ^ h) * 3 + gpb q g e < 2 ^ 31 by omega), x_dbt (by omega), jb1_e, jor]
  by_cases w : Lb (gl M 67 ((S ||| 2 ^ h) * 3 + gpb q g e)) (d ||| dbt e)
  · rw [cd_tt w, if_pos (and_one.mpr ((Lb_ushr d6).mpr w))]; rfl
  · rw [cd_ff w, if_neg (fun z => w ((Lb_ushr d6).mp (and_one.mp z)))]; rfl
end KA
