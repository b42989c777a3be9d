theorem lp_X1_writeFirst_L9_b {Γ : jG} (hC : jOK Γ cX1_writeFirst 5 RX1 (none) { frames := 6, cells := 0, slots := 0, locals := 136 }) {Q : State → Prop} (o3 : Nat) (n3 : Nat) (ho3 : GX[o3]? = some (0, n3)) (x1 : Int32) (rec : Int32 → Int32 → jM → Option (Int32 × jM)) (ih : ∀ (x2 : Int32) (x4 : Int32) (M : jM) (e4 : Int32) (Me : jM), rec x2 x4 M = some (e4, Me) → jJ Γ GX RX 41 [(0, .ref (jad Γ 65)), (1, .int x1), (2, .int x2), (3, .ref (jad Γ o3)), (4, .int e4)] [] Me Q → jJ Γ GX RX 9 [(0, .ref (jad Γ 65)), (1, .int x1), (2, .int x2), (3, .ref (jad Γ o3)), (4, .int x4)] [] M Q) (x2 : Int32) (x4 : Int32) (M : jM) (e4 : Int32) (Me : jM) (h : f_X1_writeFirst_L9_b o3 n3 rec x2 x4 M = some (e4, Me)) (hK : jJ Γ GX RX 41 [(0, .ref (jad Γ 65)), (1, .int x1), (2, .int x2), (3, .ref (jad Γ o3)), (4, .int e4)] [] Me Q) : jJ Γ GX RX 9 [(0, .ref (jad Γ 65)), (1, .int x1), (2, .int x2), (3, .ref (jad Γ o3)), (4, .int x4)] [] M Q := by
  unfold f_X1_writeFirst_L9_b at h
  refine j_iload 4 (pc' := 11) hC dX1_writeFirst_9 rfl rfl ?_
  refine j_iload_n 2 (pc' := 12) hC dX1_writeFirst_11 rfl rfl ?_
  refine j_icmp_ge (tgt := 41) (pc' := 15) hC dX1_writeFirst_12 (by decide) rfl (fun c1 => ?_) (fun c1 => ?_)
  · have h := jit_t c1 h
    obtain ⟨q0, q1⟩ := jinj2 h
    subst q0
    subst q1
    refine j_sub [0, 1, 2, 3, 4] rfl ?_
    exact hK
  · have h := jit_f c1 h
    refine j_iconst (v := 2) (pc' := 16) hC dX1_writeFirst_15 rfl rfl ?_
    refine j_iload 4 (pc' := 18) hC dX1_writeFirst_16 rfl rfl ?_
    refine j_imul (pc' := 19) hC dX1_writeFirst_18 rfl ?_
    refine j_iconst (v := 1) (pc' := 20) hC dX1_writeFirst_19 rfl rfl ?_
    refine j_iadd (pc' := 21) hC dX1_writeFirst_20 rfl ?_
    refine j_aload_n 3 (pc' := 22) hC dX1_writeFirst_21 rfl rfl ?_
    refine j_alen0 (v := (Int32.ofNat n3)) (pc' := 23) hC dX1_writeFirst_22 rfl ho3 rfl ?_
    refine j_icmp_ge (tgt := 41) (pc' := 26) hC dX1_writeFirst_23 (by decide) rfl (fun c2 => ?_) (fun c2 => ?_)
    · have h := jit_t c2 h
      obtain ⟨q0, q1⟩ := jinj2 h
      subst q0
      subst q1
      refine j_sub [0, 1, 2, 3, 4] rfl ?_
      exact hK
    · have h := jit_f c2 h
      refine j_aload_n 0 (pc' := 27) hC dX1_writeFirst_26 rfl rfl ?_
      refine j_iconst (v := 2) (pc' := 28) hC dX1_writeFirst_27 rfl rfl ?_
      refine j_iload 4 (pc' := 30) hC dX1_writeFirst_28 rfl rfl ?_
      refine j_imul (pc' := 31) hC dX1_writeFirst_30 rfl ?_
      refine j_aload_n 3 (pc' := 32) hC dX1_writeFirst_31 rfl rfl ?_
      obtain ⟨M3, hc4, h⟩ := jb1_s h
      refine j_callVv [.int ((2 : Int32) * x4), .ref (jad Γ o3)] (pc' := 35) hC dX1_writeFirst_32 rfl (t_X1_writeFirstPair _ _ ho3 hc4) gx65 vcl1 cv_X1_129 ⟨⟨Nat.le_of_ble_eq_true rfl, Nat.le_of_ble_eq_true rfl⟩, rfl, Nat.le_of_ble_eq_true rfl⟩ rfl rfl ?_
      obtain ⟨v5, ev5, h⟩ := jlet_s h
      refine j_iinc' 4 (c := 1) (pc' := 38) hC dX1_writeFirst_35 rfl rfl rfl ev5 (by decide) rfl ?_
      refine j_goto (tgt := 9) (pc' := 0) hC dX1_writeFirst_38 (by decide) ?_
      refine j_sub [1, 2, 3, 4, 0] rfl ?_
      exact ih _ _ _ _ _ h hK
theorem lp_X1_writeFirst_L9 {Γ : jG} (hC : jOK Γ cX1_writeFirst 5 RX1 (none) { frames := 6, cells := 0, slots := 0, locals := 136 }) {Q : State → Prop} (o3 : Nat) (n3 : Nat) (ho3 : GX[o3]? = some (0, n3)) (x1 : Int32) : ∀ (n : Nat) (x2 : Int32) (x4 : Int32) (M : jM) (e4 : Int32) (Me : jM), f_X1_writeFirst_L9 o3 n3 n x2 x4 M = some (e4, Me) → jJ Γ GX RX 41 [(0, .ref (jad Γ 65)), (1, .int x1), (2, .int x2), (3, .ref (jad Γ o3)), (4, .int e4)] [] Me Q → jJ Γ GX RX 9 [(0, .ref (jad Γ 65)), (1, .int x1), (2, .int x2), (3, .ref (jad Γ o3)), (4, .int x4)] [] M Q := by
  intro n
  induction n with
  | zero =>
    intro x2 x4 M e4 Me h hK
    exact jno h
  | succ n ih =>
    intro x2 x4 M e4 Me h hK
    exact lp_X1_writeFirst_L9_b hC o3 n3 ho3 x1 (f_X1_writeFirst_L9 o3 n3 n) ih x2 x4 M e4 Me h hK
theorem t_X1_writeFirst (l : Launch) (E : jE) {a1 : Int32} {a2 : Int32} {o3 : Nat} {n3 : Nat} (ho3 : GX[o3]? = some (0, n3)) {M : jM} {M' : jM} (h : f_X1_writeFirst a1 a2 o3 n3 M = some M') : jCv l yX1_writeFirst cX1_writeFirst 5 (none) 6 136 E RX GX (fun a _ => [.ref (a 65), .int a1, .int a2, .ref (a o3)]) M M' := by
  refine jCv_of (own := RX1) (by decide) rfl (fun _ _ => Nat.le_of_ble_eq_true rfl) ?_
  intro Γ hC
  show jJ Γ GX RX 0 [(0, .ref (jad Γ 65)), (1, .int a1), (2, .int a2), (3, .ref (jad Γ o3))] [] M (jQv Γ RX GX M')
  unfold f_X1_writeFirst at h
  refine j_aload_n 0 (pc' := 1) hC dX1_writeFirst_0 rfl rfl ?_
  refine j_iload_n 1 (pc' := 2) hC dX1_writeFirst_1 rfl rfl ?_
  refine j_iload_n 2 (pc' := 3) hC dX1_writeFirst_2 rfl rfl ?_
  obtain ⟨M1, hc2, h⟩ := jb1_s h
  refine j_callVv [.int a1, .int a2] (pc' := 6) hC dX1_writeFirst_3 rfl (t_X1_findWinning _ _ hc2) gx65 vcl1 cv_X1_126 ⟨⟨Nat.le_of_ble_eq_true rfl, Nat.le_of_ble_eq_true rfl⟩, rfl, Nat.le_of_ble_eq_true rfl⟩ rfl rfl ?_
  refine j_iconst (v := 0) (pc' := 7) hC dX1_writeFirst_6 rfl rfl ?_
  refine j_istore (pc' := 9) hC dX1_writeFirst_7 rfl rfl (by decide) rfl ?_
  refine j_sub [1, 2, 3, 4, 0] rfl ?_
  obtain ⟨v3, M4, hm5, h⟩ := jb2_s h
  refine lp_X1_writeFirst_L9 hC o3 n3 ho3 a1 jfu a2 (0 : Int32) M1 v3 M4 hm5 ?_
  have q8 := jinj1 h
  subst q8
  exact j_vret hC dX1_writeFirst_41
theorem t_X5_order (l : Launch) (E : jE) {a1 : Int32} {a2 : Int32} {M : jM} {r : Int32} {M' : jM} (h : f_X5_order a1 a2 M = some (r, M')) : jCi l yX5_order cX5_order 4 (some .int) 7 160 E RX GX (fun a _ => [.ref (a 0), .int a1, .int a2]) M r M' := by
  refine jCi_of (own := RX5) (by decide) rfl (fun _ _ => Nat.le_of_ble_eq_true rfl) ?_
  intro Γ hC
  show jJ Γ GX RX 0 [(0, .ref (jad Γ 0)), (1, .int a1), (2, .int a2)] [] M (jQi Γ RX GX r M')
  unfold f_X5_order at h
  refine j_aload_n 0 (pc' := 1) hC dX5_order_0 rfl rfl ?_
  refine j_getr' (o2 := 29) (pc' := 4) hC dX5_order_1 rfl fi_X5_31 gx0 rfl ?_
  refine j_iload_n 1 (pc' := 5) hC dX5_order_4 rfl rfl ?_
  obtain ⟨r1, hc2, h⟩ := jb1_s h
  refine j_callVi [.int a1] (pc' := 8) hC dX5_order_5 rfl (t_X2_hasDeed _ _ hc2) gx29 vcl2 cv_X5_143 ⟨⟨Nat.le_of_ble_eq_true rfl, Nat.le_of_ble_eq_true rfl⟩, rfl, Nat.le_of_ble_eq_true rfl⟩ rfl rfl ?_
  refine j_if_eq (tgt := 22) (pc' := 11) hC dX5_order_8 (by decide) rfl (fun c3 => ?_) (fun c3 => ?_)
  · have h := jit_t c3 h
    refine j_iconst (v := -1) (pc' := 23) hC dX5_order_22 rfl rfl ?_
    obtain ⟨q0, q1⟩ := jinj2 h
    subst q0
    subst q1
    exact j_iret hC dX5_order_23
  · have h := jit_f c3 h
    refine j_aload_n 0 (pc' := 12) hC dX5_order_11 rfl rfl ?_
    refine j_getr' (o2 := 1) (pc' := 15) hC dX5_order_12 rfl fi_X5_14 gx0 rfl ?_
    refine j_iload_n 2 (pc' := 16) hC dX5_order_15 rfl rfl ?_
    obtain ⟨r4, hc5, h⟩ := jb1_s h
    refine j_callVi [.int a2] (pc' := 19) hC dX5_order_16 rfl (t_X4_knowsa _ _ hc5) gx1 vcl4 cv_X5_77 ⟨⟨Nat.le_of_ble_eq_true rfl, Nat.le_of_ble_eq_true rfl⟩, rfl, Nat.le_of_ble_eq_true rfl⟩ rfl rfl ?_
    refine j_if_ne (tgt := 24) (pc' := 22) hC dX5_order_19 (by decide) rfl (fun c6 => ?_) (fun c6 => ?_)
    · have h := jit_f c6 h
      refine j_aload_n 0 (pc' := 25) hC dX5_order_24 rfl rfl ?_
      refine j_getr' (o2 := 65) (pc' := 28) hC dX5_order_25 rfl fi_X5_55 gx0 rfl ?_
      refine j_aload_n 0 (pc' := 29) hC dX5_order_28 rfl rfl ?_
      refine j_getr' (o2 := 39) (pc' := 32) hC dX5_order_29 rfl fi_X5_40 gx0 rfl ?_
      refine j_aload_n 0 (pc' := 33) hC dX5_order_32 rfl rfl ?_
      refine j_getr' (o2 := 39) (pc' := 36) hC dX5_order_33 rfl fi_X5_40 gx0 rfl ?_
      obtain ⟨r7, hc8, h⟩ := jb1_s h
      refine j_callVi [] (pc' := 39) hC dX5_order_36 rfl (t_X0_shelfBits _ _ hc8) gx39 vcl0 cv_X5_209 ⟨⟨Nat.le_of_ble_eq_true rfl, Nat.le_of_ble_eq_true rfl⟩, rfl, Nat.le_of_ble_eq_true rfl⟩ rfl rfl ?_
      obtain ⟨M9, hc10, h⟩ := jb1_s h
      refine j_callVv [.ref (jad Γ 39), .int r7] (pc' := 42) hC dX5_order_39 rfl (t_X1_explore _ _ hc10) gx65 vcl1 cv_X5_254 ⟨⟨Nat.le_of_ble_eq_true rfl, Nat.le_of_ble_eq_true rfl⟩, rfl, Nat.le_of_ble_eq_true rfl⟩ rfl rfl ?_
      refine j_aload_n 0 (pc' := 43) hC dX5_order_42 rfl rfl ?_
      refine j_getr' (o2 := 65) (pc' := 46) hC dX5_order_43 rfl fi_X5_55 gx0 rfl ?_
      refine j_iload_n 1 (pc' := 47) hC dX5_order_46 rfl rfl ?_
      obtain ⟨r11, hc12, h⟩ := jb1_s h
      refine j_callVi [.int a1] (pc' := 50) hC dX5_order_47 rfl (t_X1_fewestHoursTo _ _ hc12) gx65 vcl1 cv_X5_263 ⟨⟨Nat.le_of_ble_eq_true rfl, Nat.le_of_ble_eq_true rfl⟩, rfl, Nat.le_of_ble_eq_true rfl⟩ rfl rfl ?_
      refine j_istore_n (pc' := 51) hC dX5_order_50 rfl rfl (by decide) rfl ?_
      refine j_iload_n 0 (pc' := 52) hC dX5_order_51 rfl rfl ?_
      refine j_bipush (v := -9) (pc' := 54) hC dX5_order_52 rfl rfl ?_
      refine j_icmp_ne (tgt := 60) (pc' := 57) hC dX5_order_54 (by decide) rfl (fun c13 => ?_) (fun c13 => ?_)
      · have h := jit_f c13 h
        refine j_aload_n 1 (pc' := 61) hC dX5_order_60 rfl rfl ?_
        refine j_getr' (o2 := 1) (pc' := 64) hC dX5_order_61 rfl fi_X5_14 gx0 rfl ?_
        refine j_iload_n 3 (pc' := 65) hC dX5_order_64 rfl rfl ?_
        refine j_iconst (v := 2) (pc' := 66) hC dX5_order_65 rfl rfl ?_
        refine j_iload_n 0 (pc' := 67) hC dX5_order_66 rfl rfl ?_
        refine j_imul (pc' := 68) hC dX5_order_67 rfl ?_
        refine j_iconst (v := 0) (pc' := 69) hC dX5_order_68 rfl rfl ?_
        obtain ⟨M14, hc15, h⟩ := jb1_s h
        refine j_callVv [.int a2, .int ((2 : Int32) * r11), .int (0 : Int32)] (pc' := 72) hC dX5_order_69 rfl (t_X4_begina _ _ hc15) gx1 vcl4 cv_X5_85 ⟨⟨Nat.le_of_ble_eq_true rfl, Nat.le_of_ble_eq_true rfl⟩, rfl, Nat.le_of_ble_eq_true rfl⟩ rfl rfl ?_
        refine j_aload_n 1 (pc' := 73) hC dX5_order_72 rfl rfl ?_
        refine j_getr' (o2 := 65) (pc' := 76) hC dX5_order_73 rfl fi_X5_55 gx0 rfl ?_
        refine j_iload_n 2 (pc' := 77) hC dX5_order_76 rfl rfl ?_
        refine j_iload_n 0 (pc' := 78) hC dX5_order_77 rfl rfl ?_
        refine j_aload_n 1 (pc' := 79) hC dX5_order_78 rfl rfl ?_
        refine j_getr' (o2 := 1) (pc' := 82) hC dX5_order_79 rfl fi_X5_14 gx0 rfl ?_
        refine j_getr' (o2 := 3) (pc' := 85) hC dX5_order_82 rfl fi_X5_100 gx1 rfl ?_
        refine j_iload_n 3 (pc' := 86) hC dX5_order_85 rfl rfl ?_
        obtain ⟨g16, h⟩ := jg_s h
        refine j_aald4 (o2 := (4 + a2.toNatClampNeg)) (pc' := 87) hC dX5_order_86 rfl gx3 g16 (rxc3 g16) ?_
        obtain ⟨M17, hc18, h⟩ := jb1_s h
        refine j_callVv [.int a1, .int r11, .ref (jad Γ (4 + a2.toNatClampNeg))] (pc' := 90) hC dX5_order_87 rfl (t_X1_writeFirst _ _ (gxc3 g16) hc18) gx65 vcl1 cv_X5_266 ⟨⟨Nat.le_of_ble_eq_true rfl, Nat.le_of_ble_eq_true rfl⟩, rfl, Nat.le_of_ble_eq_true rfl⟩ rfl rfl ?_
        refine j_iload_n 0 (pc' := 91) hC dX5_order_90 rfl rfl ?_
        obtain ⟨q0, q1⟩ := jinj2 h
        subst q0
        subst q1
        exact j_iret hC dX5_order_91
      · have h := jit_t c13 h
        refine j_bipush (v := -9) (pc' := 59) hC dX5_order_57 rfl rfl ?_
        obtain ⟨q0, q1⟩ := jinj2 h
        subst q0
        subst q1
        exact j_iret hC dX5_order_59
    · have h := jit_t c6 h
      refine j_iconst (v := -1) (pc' := 23) hC dX5_order_22 rfl rfl ?_
      obtain ⟨q0, q1⟩ := jinj2 h
      subst q0
      subst q1
      exact j_iret hC dX5_order_23
theorem lp_X5_shut_L47_b {Γ : jG} (hC : jOK Γ cX5_shut 5 RX5 (some .int) { frames := 4, cells := 0, slots := 0, locals := 98 }) {Q : State → Prop} (rec : Int32 → Int32 → Int32 → Int32 → jM → Option (Int32 × Int32)) (ih : ∀ (x1 : Int32) (x2 : Int32) (x3 : Int32) (x4 : Int32) (M : jM) (e3 : Int32) (e4 : Int32), rec x1 x2 x3 x4 M = some (e3, e4) → jJ Γ GX RX 96 [(0, .ref (jad Γ 0)), (1, .int x1), (2, .int x2), (3, .int e3), (4, .int e4)] [] M Q → jJ Γ GX RX 47 [(0, .ref (jad Γ 0)), (1, .int x1), (2, .int x2), (3, .int x3), (4, .int x4)] [] M Q) (x1 : Int32) (x2 : Int32) (x3 : Int32) (x4 : Int32) (M : jM) (e3 : Int32) (e4 : Int32) (h : f_X5_shut_L47_b rec x1 x2 x3 x4 M = some (e3, e4)) (hK : jJ Γ GX RX 96 [(0, .ref (jad Γ 0)), (1, .int x1), (2, .int x2), (3, .int e3), (4, .int e4)] [] M Q) : jJ Γ GX RX 47 [(0, .ref (jad Γ 0)), (1, .int x1), (2, .int x2), (3, .int x3), (4, .int x4)] [] M Q := by
  unfold f_X5_shut_L47_b at h
  refine j_iload 4 (pc' := 49) hC dX5_shut_47 rfl rfl ?_
  refine j_aload_n 0 (pc' := 50) hC dX5_shut_49 rfl rfl ?_
  refine j_getr' (o2 := 29) (pc' := 53) hC dX5_shut_50 rfl fi_X5_31 gx0 rfl ?_
  refine j_geti' (pc' := 56) hC dX5_shut_53 rfl fi_X5_228 gx29 ?_
  refine j_icmp_ge (tgt := 96) (pc' := 59) hC dX5_shut_56 (by decide) rfl (fun c1 => ?_) (fun c1 => ?_)
  · have h := jit_t c1 h
    obtain ⟨q0, q1⟩ := jinj2 h
    subst q0
    subst q1
    refine j_sub [0, 1, 2, 3, 4] rfl ?_
    exact hK
  · have h := jit_f c1 h
    refine j_iload_n 1 (pc' := 60) hC dX5_shut_59 rfl rfl ?_
    refine j_iload 4 (pc' := 62) hC dX5_shut_60 rfl rfl ?_
    obtain ⟨r2, hc3, h⟩ := jb1_s h
    refine j_callSi [.int x1, .int x4] (pc' := 65) hC dX5_shut_62 rfl (t_X5_isIn _ _ hc3) cs_X5_270 ⟨⟨Nat.le_of_ble_eq_true rfl, Nat.le_of_ble_eq_true rfl⟩, rfl, Nat.le_of_ble_eq_true rfl⟩ rfl rfl ?_
    obtain ⟨v9, hm11, h⟩ := jb1_s h
    have K10 : jJ Γ GX RX 90 [(0, .ref (jad Γ 0)), (1, .int x1), (2, .int x2), (3, .int v9), (4, .int x4)] [] M Q := by
      obtain ⟨v17, ev17, h⟩ := jlet_s h
      refine j_iinc' 4 (c := 1) (pc' := 93) hC dX5_shut_90 rfl rfl rfl ev17 (by decide) rfl ?_
      refine j_goto (tgt := 47) (pc' := 0) hC dX5_shut_93 (by decide) ?_
      refine j_sub [1, 2, 3, 4, 0] rfl ?_
      exact ih _ _ _ _ _ _ _ h hK
    refine j_if_eq (tgt := 90) (pc' := 68) hC dX5_shut_65 (by decide) rfl (fun c12 => ?_) (fun c12 => ?_)
    · have hm11 := jit_t c12 hm11
      have q8 := jinj1 hm11
      subst q8
      exact j_sub [0, 1, 2, 3, 4] rfl K10
    · have hm11 := jit_f c12 hm11
      refine j_aload_n 0 (pc' := 69) hC dX5_shut_68 rfl rfl ?_
      refine j_getr' (o2 := 65) (pc' := 72) hC dX5_shut_69 rfl fi_X5_55 gx0 rfl ?_
      refine j_iconst (v := 1) (pc' := 73) hC dX5_shut_72 rfl rfl ?_
      refine j_iload 4 (pc' := 75) hC dX5_shut_73 rfl rfl ?_
      refine j_ishl (pc' := 76) hC dX5_shut_75 rfl ?_
      obtain ⟨r13, hc14, hm11⟩ := jb1_s hm11
      refine j_callVi [.int ((1 : Int32) <<< (x4 &&& 31))] (pc' := 79) hC dX5_shut_76 rfl (t_X1_mostDone _ _ hc14) gx65 vcl1 cv_X5_257 ⟨⟨Nat.le_of_ble_eq_true rfl, Nat.le_of_ble_eq_true rfl⟩, rfl, Nat.le_of_ble_eq_true rfl⟩ rfl rfl ?_
      refine j_iload_n 2 (pc' := 80) hC dX5_shut_79 rfl rfl ?_
      refine j_icmp_ne (tgt := 90) (pc' := 83) hC dX5_shut_80 (by decide) rfl (fun c15 => ?_) (fun c15 => ?_)
      · have hm11 := jit_f c15 hm11
        have q8 := jinj1 hm11
        subst q8
        exact j_sub [0, 1, 2, 3, 4] rfl K10
      · have hm11 := jit_t c15 hm11
        refine j_iload_n 3 (pc' := 84) hC dX5_shut_83 rfl rfl ?_
        refine j_iconst (v := 1) (pc' := 85) hC dX5_shut_84 rfl rfl ?_
        refine j_iload 4 (pc' := 87) hC dX5_shut_85 rfl rfl ?_
        refine j_ishl (pc' := 88) hC dX5_shut_87 rfl ?_
        refine j_ior (pc' := 89) hC dX5_shut_88 rfl ?_
        obtain ⟨v16, ev16, hm11⟩ := jlet_s hm11
        refine j_istore_n (pc' := 90) hC dX5_shut_89 rfl ev16 (by decide) rfl ?_
        have q8 := jinj1 hm11
        subst q8
        exact j_sub [1, 2, 3, 0, 4] rfl K10
theorem lp_X5_shut_L47 {Γ : jG} (hC : jOK Γ cX5_shut 5 RX5 (some .int) { frames := 4, cells := 0, slots := 0, locals := 98 }) {Q : State → Prop} : ∀ (n : Nat) (x1 : Int32) (x2 : Int32) (x3 : Int32) (x4 : Int32) (M : jM) (e3 : Int32) (e4 : Int32), f_X5_shut_L47 n x1 x2 x3 x4 M = some (e3, e4) → jJ Γ GX RX 96 [(0, .ref (jad Γ 0)), (1, .int x1), (2, .int x2), (3, .int e3), (4, .int e4)] [] M Q → jJ Γ GX RX 47 [(0, .ref (jad Γ 0)), (1, .int x1), (2, .int x2), (3, .int x3), (4, .int x4)] [] M Q := by
  intro n
  induction n with
  | zero =>
    intro x1 x2 x3 x4 M e3 e4 h hK
    exact jno h
  | succ n ih =>
    intro x1 x2 x3 x4 M e3 e4 h hK
    exact lp_X5_shut_L47_b hC (f_X5_shut_L47 n) ih x1 x2 x3 x4 M e3 e4 h hK
theorem t_X5_shut (l : Launch) (E : jE) {M : jM} {r : Int32} {M' : jM} (h : f_X5_shut M = some (r, M')) : jCi l yX5_shut cX5_shut 5 (some .int) 4 98 E RX GX (fun a _ => [.ref (a 0)]) M r M' := by
  refine jCi_of (own := RX5) (by decide) rfl (fun _ _ => Nat.le_of_ble_eq_true rfl) ?_
  intro Γ hC
  show jJ Γ GX RX 0 [(0, .ref (jad Γ 0))] [] M (jQi Γ RX GX r M')
  unfold f_X5_shut at h
  refine j_aload_n 0 (pc' := 1) hC dX5_shut_0 rfl rfl ?_
  refine j_getr' (o2 := 29) (pc' := 4) hC dX5_shut_1 rfl fi_X5_31 gx0 rfl ?_
  refine j_geti' (pc' := 7) hC dX5_shut_4 rfl fi_X5_140 gx29 ?_
  refine j_if_ne (tgt := 13) (pc' := 10) hC dX5_shut_7 (by decide) rfl (fun c1 => ?_) (fun c1 => ?_)
  · have h := jit_f c1 h
    refine j_aload_n 0 (pc' := 14) hC dX5_shut_13 rfl rfl ?_
    refine j_getr' (o2 := 39) (pc' := 17) hC dX5_shut_14 rfl fi_X5_40 gx0 rfl ?_
    obtain ⟨r2, hc3, h⟩ := jb1_s h
    refine j_callVi [] (pc' := 20) hC dX5_shut_17 rfl (t_X0_shelfBits _ _ hc3) gx39 vcl0 cv_X5_209 ⟨⟨Nat.le_of_ble_eq_true rfl, Nat.le_of_ble_eq_true rfl⟩, rfl, Nat.le_of_ble_eq_true rfl⟩ rfl rfl ?_
    refine j_istore_n (pc' := 21) hC dX5_shut_20 rfl rfl (by decide) rfl ?_
    refine j_aload_n 1 (pc' := 22) hC dX5_shut_21 rfl rfl ?_
    refine j_getr' (o2 := 65) (pc' := 25) hC dX5_shut_22 rfl fi_X5_55 gx0 rfl ?_
    refine j_aload_n 1 (pc' := 26) hC dX5_shut_25 rfl rfl ?_
    refine j_getr' (o2 := 39) (pc' := 29) hC dX5_shut_26 rfl fi_X5_40 gx0 rfl ?_
    refine j_iload_n 0 (pc' := 30) hC dX5_shut_29 rfl rfl ?_
    obtain ⟨M4, hc5, h⟩ := jb1_s h
    refine j_callVv [.ref (jad Γ 39), .int r2] (pc' := 33) hC dX5_shut_30 rfl (t_X1_explore _ _ hc5) gx65 vcl1 cv_X5_254 ⟨⟨Nat.le_of_ble_eq_true rfl, Nat.le_of_ble_eq_true rfl⟩, rfl, Nat.le_of_ble_eq_true rfl⟩ rfl rfl ?_
    refine j_aload_n 1 (pc' := 34) hC dX5_shut_33 rfl rfl ?_
    refine j_getr' (o2 := 65) (pc' := 37) hC dX5_shut_34 rfl fi_X5_55 gx0 rfl ?_
    refine j_iconst (v := 0) (pc' := 38) hC dX5_shut_37 rfl rfl ?_
    obtain ⟨r6, hc7, h⟩ := jb1_s h
    refine j_callVi [.int (0 : Int32)] (pc' := 41) hC dX5_shut_38 rfl (t_X1_mostDone _ _ hc7) gx65 vcl1 cv_X5_257 ⟨⟨Nat.le_of_ble_eq_true rfl, Nat.le_of_ble_eq_true rfl⟩, rfl, Nat.le_of_ble_eq_true rfl⟩ rfl rfl ?_
    refine j_istore_n (pc' := 42) hC dX5_shut_41 rfl rfl (by decide) rfl ?_
    refine j_iconst (v := 0) (pc' := 43) hC dX5_shut_42 rfl rfl ?_
    refine j_istore_n (pc' := 44) hC dX5_shut_43 rfl rfl (by decide) rfl ?_
    refine j_iconst (v := 0) (pc' := 45) hC dX5_shut_44 rfl rfl ?_
    refine j_istore (pc' := 47) hC dX5_shut_45 rfl rfl (by decide) rfl ?_
    refine j_sub [4, 3, 2, 1, 0] rfl ?_
    obtain ⟨v8, v9, hm10, h⟩ := jb2_s h
    refine lp_X5_shut_L47 hC  jfu r2 r6 (0 : Int32) (0 : Int32) M4 v8 v9 hm10 ?_
    refine j_iload_n 3 (pc' := 97) hC dX5_shut_96 rfl rfl ?_
    obtain ⟨q0, q1⟩ := jinj2 h
    subst q0
    subst q1
    exact j_iret hC dX5_shut_97
  · have h := jit_t c1 h
    refine j_bipush (v := -4) (pc' := 12) hC dX5_shut_10 rfl rfl ?_
    obtain ⟨q0, q1⟩ := jinj2 h
    subst q0
    subst q1
    exact j_iret hC dX5_shut_12
theorem lp_X0_dayOfAll_L7_b {Γ : jG} (hC : jOK Γ cX0_dayOfAll 4 RX0 (some .int) { frames := 1, cells := 0, slots := 0, locals := 24 }) {Q : State → Prop} (rec : Int32 → Int32 → Int32 → jM → Option (Int32 × Int32)) (ih : ∀ (x1 : Int32) (x2 : Int32) (x3 : Int32) (M : jM) (e2 : Int32) (e3 : Int32), rec x1 x2 x3 M = some (e2, e3) → jJ Γ GX RX 46 [(0, .ref (jad Γ 39)), (1, .int x1), (2, .int e2), (3, .int e3)] [] M Q → jJ Γ GX RX 7 [(0, .ref (jad Γ 39)), (1, .int x1), (2, .int x2), (3, .int x3)] [] M Q) (x1 : Int32) (x2 : Int32) (x3 : Int32) (M : jM) (e2 : Int32) (e3 : Int32) (h : f_X0_dayOfAll_L7_b rec x1 x2 x3 M = some (e2, e3)) (hK : jJ Γ GX RX 46 [(0, .ref (jad Γ 39)), (1, .int x1), (2, .int e2), (3, .int e3)] [] M Q) : jJ Γ GX RX 7 [(0, .ref (jad Γ 39)), (1, .int x1), (2, .int x2), (3, .int x3)] [] M Q := by
  unfold f_X0_dayOfAll_L7_b at h
  refine j_iload_n 3 (pc' := 8) hC dX0_dayOfAll_7 rfl rfl ?_
  refine j_aload_n 0 (pc' := 9) hC dX0_dayOfAll_8 rfl rfl ?_
  refine j_getr' (o2 := 29) (pc' := 12) hC dX0_dayOfAll_9 rfl fi_X0_46 gx39 rfl ?_
  refine j_geti' (pc' := 15) hC dX0_dayOfAll_12 rfl fi_X0_99 gx29 ?_
  refine j_icmp_ge (tgt := 46) (pc' := 18) hC dX0_dayOfAll_15 (by decide) rfl (fun c1 => ?_) (fun c1 => ?_)
  · have h := jit_t c1 h
    obtain ⟨q0, q1⟩ := jinj2 h
    subst q0
    subst q1
    refine j_sub [0, 1, 2, 3] rfl ?_
    exact hK
  · have h := jit_f c1 h
    refine j_iload_n 1 (pc' := 19) hC dX0_dayOfAll_18 rfl rfl ?_
    refine j_iload_n 3 (pc' := 20) hC dX0_dayOfAll_19 rfl rfl ?_
    obtain ⟨r2, hc3, h⟩ := jb1_s h
    refine j_callNi [.int x1, .int x3] (pc' := 23) hC dX0_dayOfAll_20 rfl (t_X5_isIn _ _ hc3) cn_X0_113 ⟨⟨Nat.le_of_ble_eq_true rfl, Nat.le_of_ble_eq_true rfl⟩, rfl, Nat.le_of_ble_eq_true rfl⟩ rfl rfl ?_
    obtain ⟨v7, hm9, h⟩ := jb1_s h
    have K8 : jJ Γ GX RX 39 [(0, .ref (jad Γ 39)), (1, .int x1), (2, .int x2), (3, .int x3)] [.int v7] M Q := by
      refine j_istore_n (pc' := 40) hC dX0_dayOfAll_39 rfl rfl (by decide) rfl ?_
      obtain ⟨v13, ev13, h⟩ := jlet_s h
      refine j_iinc' 3 (c := 1) (pc' := 43) hC dX0_dayOfAll_40 rfl rfl rfl ev13 (by decide) rfl ?_
      refine j_goto (tgt := 7) (pc' := 0) hC dX0_dayOfAll_43 (by decide) ?_
      refine j_sub [2, 3, 1, 0] rfl ?_
      exact ih _ _ _ _ _ _ h hK
    refine j_if_eq (tgt := 38) (pc' := 26) hC dX0_dayOfAll_23 (by decide) rfl (fun c10 => ?_) (fun c10 => ?_)
    · have hm9 := jit_t c10 hm9
      refine j_iload_n 2 (pc' := 39) hC dX0_dayOfAll_38 rfl rfl ?_
      have q8 := jinj1 hm9
      subst q8
      exact j_sub [0, 1, 2, 3] rfl K8
    · have hm9 := jit_f c10 hm9
      refine j_iload_n 2 (pc' := 27) hC dX0_dayOfAll_26 rfl rfl ?_
      refine j_aload_n 0 (pc' := 28) hC dX0_dayOfAll_27 rfl rfl ?_
      refine j_iload_n 3 (pc' := 29) hC dX0_dayOfAll_28 rfl rfl ?_
      obtain ⟨r11, hc12, hm9⟩ := jb1_s hm9
      refine j_callVi [.int x3] (pc' := 32) hC dX0_dayOfAll_29 rfl (t_X0_comingDay _ _ hc12) gx39 vcl0 cv_X0_102 ⟨⟨Nat.le_of_ble_eq_true rfl, Nat.le_of_ble_eq_true rfl⟩, rfl, Nat.le_of_ble_eq_true rfl⟩ rfl rfl ?_
      refine j_mmax (pc' := 35) hC dX0_dayOfAll_32 rfl cm_X0_116 ⟨Nat.le_of_ble_eq_true rfl, Nat.le_of_ble_eq_true rfl⟩ ?_
      refine j_goto (tgt := 39) (pc' := 0) hC dX0_dayOfAll_35 (by decide) ?_
      have q8 := jinj1 hm9
      subst q8
      exact j_sub [0, 1, 2, 3] rfl K8
theorem lp_X0_dayOfAll_L7 {Γ : jG} (hC : jOK Γ cX0_dayOfAll 4 RX0 (some .int) { frames := 1, cells := 0, slots := 0, locals := 24 }) {Q : State → Prop} : ∀ (n : Nat) (x1 : Int32) (x2 : Int32) (x3 : Int32) (M : jM) (e2 : Int32) (e3 : Int32), f_X0_dayOfAll_L7 n x1 x2 x3 M = some (e2, e3) → jJ Γ GX RX 46 [(0, .ref (jad Γ 39)), (1, .int x1), (2, .int e2), (3, .int e3)] [] M Q → jJ Γ GX RX 7 [(0, .ref (jad Γ 39)), (1, .int x1), (2, .int x2), (3, .int x3)] [] M Q := by
  intro n
  induction n with
  | zero =>
    intro x1 x2 x3 M e2 e3 h hK
    exact jno h
  | succ n ih =>
    intro x1 x2 x3 M e2 e3 h hK
    exact lp_X0_dayOfAll_L7_b hC (f_X0_dayOfAll_L7 n) ih x1 x2 x3 M e2 e3 h hK
theorem t_X0_dayOfAll (l : Launch) (E : jE) {a1 : Int32} {M : jM} {r : Int32} (h : f_X0_dayOfAll a1 M = some r) : jCi l yX0_dayOfAll cX0_dayOfAll 4 (some .int) 1 24 E RX GX (fun a _ => [.ref (a 39), .int a1]) M r M := by
  refine jCi_of (own := RX0) (by decide) rfl (fun _ _ => Nat.le_of_ble_eq_true rfl) ?_
  intro Γ hC
  show jJ Γ GX RX 0 [(0, .ref (jad Γ 39)), (1, .int a1)] [] M (jQi Γ RX GX r M)
  unfold f_X0_dayOfAll at h
  refine j_aload_n 0 (pc' := 1) hC dX0_dayOfAll_0 rfl rfl ?_
  refine j_geti' (pc' := 4) hC dX0_dayOfAll_1 rfl fi_X0_31 gx39 ?_
  obtain ⟨v1, ev1, h⟩ := jlet_s h
  refine j_istore_n (pc' := 5) hC dX0_dayOfAll_4 rfl ev1 (by decide) rfl ?_
  refine j_iconst (v := 0) (pc' := 6) hC dX0_dayOfAll_5 rfl rfl ?_
  refine j_istore_n (pc' := 7) hC dX0_dayOfAll_6 rfl rfl (by decide) rfl ?_
  refine j_sub [2, 3, 1, 0] rfl ?_
  obtain ⟨v2, v3, hm4, h⟩ := jb2_s h
  refine lp_X0_dayOfAll_L7 hC  jfu a1 v1 (0 : Int32) M v2 v3 hm4 ?_
  refine j_iload_n 2 (pc' := 47) hC dX0_dayOfAll_46 rfl rfl ?_
  have q8 := jinj1 h
  subst q8
  exact j_iret hC dX0_dayOfAll_47
theorem lp_X5_waits_L36_b {Γ : jG} (hC : jOK Γ cX5_waits 5 RX5 (some .int) { frames := 4, cells := 0, slots := 0, locals := 98 }) {Q : State → Prop} (rec : Int32 → Int32 → Int32 → jM → Option (Int32 × Int32)) (ih : ∀ (x1 : Int32) (x2 : Int32) (x3 : Int32) (M : jM) (e2 : Int32) (e3 : Int32), rec x1 x2 x3 M = some (e2, e3) → jJ Γ GX RX 89 [(0, .ref (jad Γ 0)), (1, .int x1), (2, .int e2), (3, .int e3)] [] M Q → jJ Γ GX RX 36 [(0, .ref (jad Γ 0)), (1, .int x1), (2, .int x2), (3, .int x3)] [] M Q) (x1 : Int32) (x2 : Int32) (x3 : Int32) (M : jM) (e2 : Int32) (e3 : Int32) (h : f_X5_waits_L36_b rec x1 x2 x3 M = some (e2, e3)) (hK : jJ Γ GX RX 89 [(0, .ref (jad Γ 0)), (1, .int x1), (2, .int e2), (3, .int e3)] [] M Q) : jJ Γ GX RX 36 [(0, .ref (jad Γ 0)), (1, .int x1), (2, .int x2), (3, .int x3)] [] M Q := by
  unfold f_X5_waits_L36_b at h
  refine j_iload_n 3 (pc' := 37) hC dX5_waits_36 rfl rfl ?_
  refine j_sipush (v := 128) (pc' := 40) hC dX5_waits_37 rfl rfl ?_
  refine j_icmp_ge (tgt := 89) (pc' := 43) hC dX5_waits_40 (by decide) rfl (fun c1 => ?_) (fun c1 => ?_)
  · have h := jit_t c1 h
    obtain ⟨q0, q1⟩ := jinj2 h
    subst q0
    subst q1
    refine j_sub [0, 1, 2, 3] rfl ?_
    exact hK
  · have h := jit_f c1 h
    refine j_aload_n 0 (pc' := 44) hC dX5_waits_43 rfl rfl ?_
    refine j_getr' (o2 := 65) (pc' := 47) hC dX5_waits_44 rfl fi_X5_55 gx0 rfl ?_
    refine j_iload_n 1 (pc' := 48) hC dX5_waits_47 rfl rfl ?_
    refine j_iload_n 3 (pc' := 49) hC dX5_waits_48 rfl rfl ?_
    obtain ⟨r2, hc3, h⟩ := jb1_s h
    refine j_callVi [.int x1, .int x3] (pc' := 52) hC dX5_waits_49 rfl (t_X1_does _ _ hc3) gx65 vcl1 cv_X5_276 ⟨⟨Nat.le_of_ble_eq_true rfl, Nat.le_of_ble_eq_true rfl⟩, rfl, Nat.le_of_ble_eq_true rfl⟩ rfl rfl ?_
    obtain ⟨v12, hm14, h⟩ := jb1_s h
    have K13 : jJ Γ GX RX 83 [(0, .ref (jad Γ 0)), (1, .int x1), (2, .int v12), (3, .int x3)] [] M Q := by
      obtain ⟨v23, ev23, h⟩ := jlet_s h
      refine j_iinc' 3 (c := 1) (pc' := 86) hC dX5_waits_83 rfl rfl rfl ev23 (by decide) rfl ?_
      refine j_goto (tgt := 36) (pc' := 0) hC dX5_waits_86 (by decide) ?_
      refine j_sub [1, 2, 3, 0] rfl ?_
      exact ih _ _ _ _ _ _ h hK
    refine j_if_eq (tgt := 83) (pc' := 55) hC dX5_waits_52 (by decide) rfl (fun c15 => ?_) (fun c15 => ?_)
    · have hm14 := jit_t c15 hm14
      have q8 := jinj1 hm14
      subst q8
      exact j_sub [0, 1, 2, 3] rfl K13
    · have hm14 := jit_f c15 hm14
      refine j_aload_n 0 (pc' := 56) hC dX5_waits_55 rfl rfl ?_
      refine j_getr' (o2 := 39) (pc' := 59) hC dX5_waits_56 rfl fi_X5_40 gx0 rfl ?_
      refine j_iload_n 3 (pc' := 60) hC dX5_waits_59 rfl rfl ?_
      obtain ⟨r16, hc17, hm14⟩ := jb1_s hm14
      refine j_callVi [.int x3] (pc' := 63) hC dX5_waits_60 rfl (t_X0_dayOfAll _ _ hc17) gx39 vcl0 cv_X5_279 ⟨⟨Nat.le_of_ble_eq_true rfl, Nat.le_of_ble_eq_true rfl⟩, rfl, Nat.le_of_ble_eq_true rfl⟩ rfl rfl ?_
      refine j_istore (pc' := 65) hC dX5_waits_63 rfl rfl (by decide) rfl ?_
      refine j_iload_n 3 (pc' := 66) hC dX5_waits_65 rfl rfl ?_
      refine j_bipush (v := -9) (pc' := 68) hC dX5_waits_66 rfl rfl ?_
      obtain ⟨v19, hm21, hm14⟩ := jlet_s hm14
      have K20 : jJ Γ GX RX 82 [(0, .ref (jad Γ 0)), (1, .int x1), (2, .int x2), (3, .int x3), (4, .int r16)] [.int v19] M Q := by
        refine j_istore_n (pc' := 83) hC dX5_waits_82 rfl rfl (by decide) rfl ?_
        have q8 := jinj1 hm14
        subst q8
        exact j_sub [1, 2, 0, 3] rfl K13
      refine j_icmp_ne (tgt := 76) (pc' := 71) hC dX5_waits_68 (by decide) rfl (fun c22 => ?_) (fun c22 => ?_)
      · have hm21 := jit_f c22 hm21
        refine j_iload_n 3 (pc' := 77) hC dX5_waits_76 rfl rfl ?_
        refine j_iload 0 (pc' := 79) hC dX5_waits_77 rfl rfl ?_
        refine j_mmin (pc' := 82) hC dX5_waits_79 rfl cm_X5_282 ⟨Nat.le_of_ble_eq_true rfl, Nat.le_of_ble_eq_true rfl⟩ ?_
        subst hm21
        exact j_sub [1, 2, 3, 4, 0] rfl K20
      · have hm21 := jit_t c22 hm21
        refine j_iload 0 (pc' := 73) hC dX5_waits_71 rfl rfl ?_
        refine j_goto (tgt := 82) (pc' := 0) hC dX5_waits_73 (by decide) ?_
        subst hm21
        exact j_sub [1, 2, 3, 4, 0] rfl K20
theorem lp_X5_waits_L36 {Γ : jG} (hC : jOK Γ cX5_waits 5 RX5 (some .int) { frames := 4, cells := 0, slots := 0, locals := 98 }) {Q : State → Prop} : ∀ (n : Nat) (x1 : Int32) (x2 : Int32) (x3 : Int32) (M : jM) (e2 : Int32) (e3 : Int32), f_X5_waits_L36 n x1 x2 x3 M = some (e2, e3) → jJ Γ GX RX 89 [(0, .ref (jad Γ 0)), (1, .int x1), (2, .int e2), (3, .int e3)] [] M Q → jJ Γ GX RX 36 [(0, .ref (jad Γ 0)), (1, .int x1), (2, .int x2), (3, .int x3)] [] M Q := by
  intro n
  induction n with
  | zero =>
    intro x1 x2 x3 M e2 e3 h hK
    exact jno h
  | succ n ih =>
    intro x1 x2 x3 M e2 e3 h hK
    exact lp_X5_waits_L36_b hC (f_X5_waits_L36 n) ih x1 x2 x3 M e2 e3 h hK
theorem t_X5_waits (l : Launch) (E : jE) {a1 : Int32} {M : jM} {r : Int32} {M' : jM} (h : f_X5_waits a1 M = some (r, M')) : jCi l yX5_waits cX5_waits 5 (some .int) 4 98 E RX GX (fun a _ => [.ref (a 0), .int a1]) M r M' := by
  refine jCi_of (own := RX5) (by decide) rfl (fun _ _ => Nat.le_of_ble_eq_true rfl) ?_
  intro Γ hC
  show jJ Γ GX RX 0 [(0, .ref (jad Γ 0)), (1, .int a1)] [] M (jQi Γ RX GX r M')
  unfold f_X5_waits at h
  refine j_aload_n 0 (pc' := 1) hC dX5_waits_0 rfl rfl ?_
  refine j_getr' (o2 := 29) (pc' := 4) hC dX5_waits_1 rfl fi_X5_31 gx0 rfl ?_
  refine j_iload_n 1 (pc' := 5) hC dX5_waits_4 rfl rfl ?_
  obtain ⟨r1, hc2, h⟩ := jb1_s h
  refine j_callVi [.int a1] (pc' := 8) hC dX5_waits_5 rfl (t_X2_hasDeed _ _ hc2) gx29 vcl2 cv_X5_143 ⟨⟨Nat.le_of_ble_eq_true rfl, Nat.le_of_ble_eq_true rfl⟩, rfl, Nat.le_of_ble_eq_true rfl⟩ rfl rfl ?_
  refine j_if_ne (tgt := 13) (pc' := 11) hC dX5_waits_8 (by decide) rfl (fun c3 => ?_) (fun c3 => ?_)
  · have h := jit_f c3 h
    refine j_aload_n 0 (pc' := 14) hC dX5_waits_13 rfl rfl ?_
    refine j_getr' (o2 := 65) (pc' := 17) hC dX5_waits_14 rfl fi_X5_55 gx0 rfl ?_
    refine j_aload_n 0 (pc' := 18) hC dX5_waits_17 rfl rfl ?_
    refine j_getr' (o2 := 39) (pc' := 21) hC dX5_waits_18 rfl fi_X5_40 gx0 rfl ?_
    refine j_aload_n 0 (pc' := 22) hC dX5_waits_21 rfl rfl ?_
    refine j_getr' (o2 := 39) (pc' := 25) hC dX5_waits_22 rfl fi_X5_40 gx0 rfl ?_
    obtain ⟨r4, hc5, h⟩ := jb1_s h
    refine j_callVi [] (pc' := 28) hC dX5_waits_25 rfl (t_X0_unopenedBits _ _ hc5) gx39 vcl0 cv_X5_273 ⟨⟨Nat.le_of_ble_eq_true rfl, Nat.le_of_ble_eq_true rfl⟩, rfl, Nat.le_of_ble_eq_true rfl⟩ rfl rfl ?_
    obtain ⟨M6, hc7, h⟩ := jb1_s h
    refine j_callVv [.ref (jad Γ 39), .int r4] (pc' := 31) hC dX5_waits_28 rfl (t_X1_explore _ _ hc7) gx65 vcl1 cv_X5_254 ⟨⟨Nat.le_of_ble_eq_true rfl, Nat.le_of_ble_eq_true rfl⟩, rfl, Nat.le_of_ble_eq_true rfl⟩ rfl rfl ?_
    refine j_bipush (v := -9) (pc' := 33) hC dX5_waits_31 rfl rfl ?_
    refine j_istore_n (pc' := 34) hC dX5_waits_33 rfl rfl (by decide) rfl ?_
    refine j_iconst (v := 0) (pc' := 35) hC dX5_waits_34 rfl rfl ?_
    refine j_istore_n (pc' := 36) hC dX5_waits_35 rfl rfl (by decide) rfl ?_
    refine j_sub [2, 3, 1, 0] rfl ?_
    obtain ⟨v8, v9, hm10, h⟩ := jb2_s h
    refine lp_X5_waits_L36 hC  jfu a1 (-9 : Int32) (0 : Int32) M6 v8 v9 hm10 ?_
    refine j_iload_n 2 (pc' := 90) hC dX5_waits_89 rfl rfl ?_
    refine j_bipush (v := 20) (pc' := 92) hC dX5_waits_90 rfl rfl ?_
    refine j_icmp_le (tgt := 100) (pc' := 95) hC dX5_waits_92 (by decide) rfl (fun c11 => ?_) (fun c11 => ?_)
    · have h := jit_t c11 h
      refine j_iload_n 2 (pc' := 101) hC dX5_waits_100 rfl rfl ?_
      obtain ⟨q0, q1⟩ := jinj2 h
      subst q0
      subst q1
      exact j_iret hC dX5_waits_101
    · have h := jit_f c11 h
      refine j_bipush (v := -9) (pc' := 97) hC dX5_waits_95 rfl rfl ?_
      refine j_goto (tgt := 101) (pc' := 0) hC dX5_waits_97 (by decide) ?_
      obtain ⟨q0, q1⟩ := jinj2 h
      subst q0
      subst q1
      exact j_iret hC dX5_waits_101
  · have h := jit_t c3 h
    refine j_iconst (v := -1) (pc' := 12) hC dX5_waits_11 rfl rfl ?_
    obtain ⟨q0, q1⟩ := jinj2 h
    subst q0
    subst q1
    exact j_iret hC dX5_waits_12
theorem lp_X5_diaryRefusal_L34_b {Γ : jG} (hC : jOK Γ cX5_diaryRefusal 5 RX5 (some .int) { frames := 3, cells := 0, slots := 0, locals := 64 }) {Q : State → Prop} (x2 : Int32) (rec : Int32 → Int32 → jM → Option ((Int32 × jM) ⊕ (Int32 × jM))) (ih : ∀ (x1 : Int32) (x3 : Int32) (M : jM) (res : (Int32 × jM) ⊕ (Int32 × jM)), rec x1 x3 M = some res → (∀ (r : Int32) (M' : jM), res = .inl (r, M') → Q = jQi Γ RX GX r M') → (∀ (e3 : Int32) (Me : jM), res = .inr (e3, Me) → jJ Γ GX RX 84 [(0, .ref (jad Γ 0)), (1, .int x1), (2, .int x2), (3, .int e3)] [] Me Q) → jJ Γ GX RX 34 [(0, .ref (jad Γ 0)), (1, .int x1), (2, .int x2), (3, .int x3)] [] M Q) (x1 : Int32) (x3 : Int32) (M : jM) (res : (Int32 × jM) ⊕ (Int32 × jM)) (h : f_X5_diaryRefusal_L34_b rec x1 x3 M = some res) (hQ : ∀ (r : Int32) (M' : jM), res = .inl (r, M') → Q = jQi Γ RX GX r M') (hK : ∀ (e3 : Int32) (Me : jM), res = .inr (e3, Me) → jJ Γ GX RX 84 [(0, .ref (jad Γ 0)), (1, .int x1), (2, .int x2), (3, .int e3)] [] Me Q) : jJ Γ GX RX 34 [(0, .ref (jad Γ 0)), (1, .int x1), (2, .int x2), (3, .int x3)] [] M Q := by
  unfold f_X5_diaryRefusal_L34_b at h
  refine j_iload_n 3 (pc' := 35) hC dX5_diaryRefusal_34 rfl rfl ?_
  refine j_aload_n 0 (pc' := 36) hC dX5_diaryRefusal_35 rfl rfl ?_
  refine j_getr' (o2 := 1) (pc' := 39) hC dX5_diaryRefusal_36 rfl fi_X5_14 gx0 rfl ?_
  refine j_getr' (o2 := 2) (pc' := 42) hC dX5_diaryRefusal_39 rfl fi_X5_108 gx1 rfl ?_
  refine j_iload_n 1 (pc' := 43) hC dX5_diaryRefusal_42 rfl rfl ?_
  obtain ⟨g1, h⟩ := jg_s h
  refine j_iald (pc' := 44) hC dX5_diaryRefusal_43 rfl gx2 g1 ?_
  refine j_icmp_ge (tgt := 84) (pc' := 47) hC dX5_diaryRefusal_44 (by decide) rfl (fun c2 => ?_) (fun c2 => ?_)
  · have h := jit_t c2 h
    have q8 := jinj1 h
    subst q8
    refine j_sub [0, 1, 2, 3] rfl ?_
    exact hK _ _ rfl
  · have h := jit_f c2 h
    refine j_aload_n 0 (pc' := 48) hC dX5_diaryRefusal_47 rfl rfl ?_
    refine j_getr' (o2 := 1) (pc' := 51) hC dX5_diaryRefusal_48 rfl fi_X5_14 gx0 rfl ?_
    refine j_getr' (o2 := 3) (pc' := 54) hC dX5_diaryRefusal_51 rfl fi_X5_100 gx1 rfl ?_
    refine j_iload_n 1 (pc' := 55) hC dX5_diaryRefusal_54 rfl rfl ?_
    obtain ⟨g3, h⟩ := jg_s h
    refine j_aald4 (o2 := (4 + x1.toNatClampNeg)) (pc' := 56) hC dX5_diaryRefusal_55 rfl gx3 g3 (rxc3 g3) ?_
    refine j_iload_n 3 (pc' := 57) hC dX5_diaryRefusal_56 rfl rfl ?_
    obtain ⟨g4, h⟩ := jg_s h
    refine j_iald (pc' := 58) hC dX5_diaryRefusal_57 rfl (gxc3 g3) g4 ?_
    obtain ⟨v5, ev5, h⟩ := jlet_s h
    refine j_istore (pc' := 60) hC dX5_diaryRefusal_58 rfl ev5 (by decide) rfl ?_
    refine j_iload 0 (pc' := 62) hC dX5_diaryRefusal_60 rfl rfl ?_
    refine j_if_lt (tgt := 72) (pc' := 65) hC dX5_diaryRefusal_62 (by decide) rfl (fun c6 => ?_) (fun c6 => ?_)
    · have h := jit_t c6 h
      refine j_aload_n 1 (pc' := 73) hC dX5_diaryRefusal_72 rfl rfl ?_
      refine j_iconst (v := 3) (pc' := 74) hC dX5_diaryRefusal_73 rfl rfl ?_
      obtain ⟨r7, M8, hc9, h⟩ := jb2_s h
      refine j_callVi [.int (3 : Int32)] (pc' := 77) hC dX5_diaryRefusal_74 rfl (t_X5_find _ _ hc9) gx0 vcl5 cv_X5_81 ⟨⟨Nat.le_of_ble_eq_true rfl, Nat.le_of_ble_eq_true rfl⟩, rfl, Nat.le_of_ble_eq_true rfl⟩ rfl rfl ?_
      have q8 := jinj1 h
      subst q8
      rw [hQ _ _ rfl]
      exact j_iret hC dX5_diaryRefusal_77
    · have h := jit_f c6 h
      refine j_iload 0 (pc' := 67) hC dX5_diaryRefusal_65 rfl rfl ?_
      refine j_bipush (v := 24) (pc' := 69) hC dX5_diaryRefusal_67 rfl rfl ?_
      refine j_icmp_lt (tgt := 78) (pc' := 72) hC dX5_diaryRefusal_69 (by decide) rfl (fun c10 => ?_) (fun c10 => ?_)
      · have h := jit_t c10 h
        obtain ⟨v11, ev11, h⟩ := jlet_s h
        refine j_iinc' 4 (c := 1) (pc' := 81) hC dX5_diaryRefusal_78 rfl rfl rfl ev11 (by decide) rfl ?_
        refine j_goto (tgt := 34) (pc' := 0) hC dX5_diaryRefusal_81 (by decide) ?_
        refine j_sub [2, 3, 4, 0] rfl ?_
        exact ih _ _ _ res h hQ hK
      · have h := jit_f c10 h
        refine j_aload_n 1 (pc' := 73) hC dX5_diaryRefusal_72 rfl rfl ?_
        refine j_iconst (v := 3) (pc' := 74) hC dX5_diaryRefusal_73 rfl rfl ?_
        obtain ⟨r12, M13, hc14, h⟩ := jb2_s h
        refine j_callVi [.int (3 : Int32)] (pc' := 77) hC dX5_diaryRefusal_74 rfl (t_X5_find _ _ hc14) gx0 vcl5 cv_X5_81 ⟨⟨Nat.le_of_ble_eq_true rfl, Nat.le_of_ble_eq_true rfl⟩, rfl, Nat.le_of_ble_eq_true rfl⟩ rfl rfl ?_
        have q8 := jinj1 h
        subst q8
        rw [hQ _ _ rfl]
        exact j_iret hC dX5_diaryRefusal_77
theorem lp_X5_diaryRefusal_L34 {Γ : jG} (hC : jOK Γ cX5_diaryRefusal 5 RX5 (some .int) { frames := 3, cells := 0, slots := 0, locals := 64 }) {Q : State → Prop} (x2 : Int32) : ∀ (n : Nat) (x1 : Int32) (x3 : Int32) (M : jM) (res : (Int32 × jM) ⊕ (Int32 × jM)), f_X5_diaryRefusal_L34 n x1 x3 M = some res → (∀ (r : Int32) (M' : jM), res = .inl (r, M') → Q = jQi Γ RX GX r M') → (∀ (e3 : Int32) (Me : jM), res = .inr (e3, Me) → jJ Γ GX RX 84 [(0, .ref (jad Γ 0)), (1, .int x1), (2, .int x2), (3, .int e3)] [] Me Q) → jJ Γ GX RX 34 [(0, .ref (jad Γ 0)), (1, .int x1), (2, .int x2), (3, .int x3)] [] M Q := by
  intro n
  induction n with
  | zero =>
    intro x1 x3 M res h hQ hK
    exact jno h
  | succ n ih =>
    intro x1 x3 M res h hQ hK
    exact lp_X5_diaryRefusal_L34_b hC x2 (f_X5_diaryRefusal_L34 n) ih x1 x3 M res h hQ hK
theorem t_X5_diaryRefusal (l : Launch) (E : jE) {a1 : Int32} {M : jM} {r : Int32} {M' : jM} (h : f_X5_diaryRefusal a1 M = some (r, M')) : jCi l yX5_diaryRefusal cX5_diaryRefusal 5 (some .int) 3 64 E RX GX (fun a _ => [.ref (a 0), .int a1]) M r M' := by
  refine jCi_of (own := RX5) (by decide) rfl (fun _ _ => Nat.le_of_ble_eq_true rfl) ?_
  intro Γ hC
  show jJ Γ GX RX 0 [(0, .ref (jad Γ 0)), (1, .int a1)] [] M (jQi Γ RX GX r M')
  unfold f_X5_diaryRefusal at h
  refine j_aload_n 0 (pc' := 1) hC dX5_diaryRefusal_0 rfl rfl ?_
  refine j_iload_n 1 (pc' := 2) hC dX5_diaryRefusal_1 rfl rfl ?_
  obtain ⟨r1, M2, hc3, h⟩ := jb2_s h
  refine j_callVi [.int a1] (pc' := 5) hC dX5_diaryRefusal_2 rfl (t_X5_refusalInHouse _ _ hc3) gx0 vcl5 cv_X5_239 ⟨⟨Nat.le_of_ble_eq_true rfl, Nat.le_of_ble_eq_true rfl⟩, rfl, Nat.le_of_ble_eq_true rfl⟩ rfl rfl ?_
  refine j_istore_n (pc' := 6) hC dX5_diaryRefusal_5 rfl rfl (by decide) rfl ?_
  refine j_iload_n 0 (pc' := 7) hC dX5_diaryRefusal_6 rfl rfl ?_
  refine j_if_eq (tgt := 12) (pc' := 10) hC dX5_diaryRefusal_7 (by decide) rfl (fun c4 => ?_) (fun c4 => ?_)
  · have h := jit_t c4 h
    refine j_aload_n 1 (pc' := 13) hC dX5_diaryRefusal_12 rfl rfl ?_
    refine j_getr' (o2 := 1) (pc' := 16) hC dX5_diaryRefusal_13 rfl fi_X5_14 gx0 rfl ?_
    refine j_getr' (o2 := 2) (pc' := 19) hC dX5_diaryRefusal_16 rfl fi_X5_108 gx1 rfl ?_
    refine j_iload_n 2 (pc' := 20) hC dX5_diaryRefusal_19 rfl rfl ?_
    obtain ⟨g5, h⟩ := jg_s h
    refine j_iald (pc' := 21) hC dX5_diaryRefusal_20 rfl gx2 g5 ?_
    refine j_bipush (v := 7) (pc' := 23) hC dX5_diaryRefusal_21 rfl rfl ?_
    refine j_icmp_le (tgt := 32) (pc' := 26) hC dX5_diaryRefusal_23 (by decide) rfl (fun c6 => ?_) (fun c6 => ?_)
    · have h := jit_t c6 h
      refine j_iconst (v := 0) (pc' := 33) hC dX5_diaryRefusal_32 rfl rfl ?_
      refine j_istore_n (pc' := 34) hC dX5_diaryRefusal_33 rfl rfl (by decide) rfl ?_
      refine j_sub [2, 3, 1, 0] rfl ?_
      rcases jr2_s h with hm9 | ⟨v7, M8, hm9, h⟩
      · exact lp_X5_diaryRefusal_L34 hC r1 jfu a1 (0 : Int32) M2 _ hm9 (fun _ _ e => by cases e; rfl) (fun _ _ e => by cases e)
      · refine lp_X5_diaryRefusal_L34 hC r1 jfu a1 (0 : Int32) M2 _ hm9 (fun _ _ e => by cases e) (fun _ _ e => ?_)
        cases e
        refine j_iconst (v := 0) (pc' := 85) hC dX5_diaryRefusal_84 rfl rfl ?_
        obtain ⟨q0, q1⟩ := jinj2 h
        subst q0
        subst q1
        exact j_iret hC dX5_diaryRefusal_85
    · have h := jit_f c6 h
      refine j_aload_n 1 (pc' := 27) hC dX5_diaryRefusal_26 rfl rfl ?_
      refine j_iconst (v := 5) (pc' := 28) hC dX5_diaryRefusal_27 rfl rfl ?_
      obtain ⟨r10, M11, hc12, h⟩ := jb2_s h
      refine j_callVi [.int (5 : Int32)] (pc' := 31) hC dX5_diaryRefusal_28 rfl (t_X5_find _ _ hc12) gx0 vcl5 cv_X5_81 ⟨⟨Nat.le_of_ble_eq_true rfl, Nat.le_of_ble_eq_true rfl⟩, rfl, Nat.le_of_ble_eq_true rfl⟩ rfl rfl ?_
      obtain ⟨q0, q1⟩ := jinj2 h
      subst q0
      subst q1
      exact j_iret hC dX5_diaryRefusal_31
  · have h := jit_f c4 h
    refine j_iload_n 0 (pc' := 11) hC dX5_diaryRefusal_10 rfl rfl ?_
    obtain ⟨q0, q1⟩ := jinj2 h
    subst q0
    subst q1
    exact j_iret hC dX5_diaryRefusal_11
theorem lp_X2_hoursAt_L4_b {Γ : jG} (hC : jOK Γ cX2_hoursAt 4 RX2 (some .int) { frames := 0, cells := 0, slots := 0, locals := 0 }) {Q : State → Prop} (rec : Int32 → Int32 → Int32 → jM → Option (Int32 × Int32)) (ih : ∀ (x1 : Int32) (x2 : Int32) (x3 : Int32) (M : jM) (e2 : Int32) (e3 : Int32), rec x1 x2 x3 M = some (e2, e3) → jJ Γ GX RX 38 [(0, .ref (jad Γ 29)), (1, .int x1), (2, .int e2), (3, .int e3)] [] M Q → jJ Γ GX RX 4 [(0, .ref (jad Γ 29)), (1, .int x1), (2, .int x2), (3, .int x3)] [] M Q) (x1 : Int32) (x2 : Int32) (x3 : Int32) (M : jM) (e2 : Int32) (e3 : Int32) (h : f_X2_hoursAt_L4_b rec x1 x2 x3 M = some (e2, e3)) (hK : jJ Γ GX RX 38 [(0, .ref (jad Γ 29)), (1, .int x1), (2, .int e2), (3, .int e3)] [] M Q) : jJ Γ GX RX 4 [(0, .ref (jad Γ 29)), (1, .int x1), (2, .int x2), (3, .int x3)] [] M Q := by
  unfold f_X2_hoursAt_L4_b at h
  refine j_iload_n 3 (pc' := 5) hC dX2_hoursAt_4 rfl rfl ?_
  refine j_aload_n 0 (pc' := 6) hC dX2_hoursAt_5 rfl rfl ?_
  refine j_geti' (pc' := 9) hC dX2_hoursAt_6 rfl fi_X2_15 gx29 ?_
  refine j_icmp_ge (tgt := 38) (pc' := 12) hC dX2_hoursAt_9 (by decide) rfl (fun c1 => ?_) (fun c1 => ?_)
  · have h := jit_t c1 h
    obtain ⟨q0, q1⟩ := jinj2 h
    subst q0
    subst q1
    refine j_sub [0, 1, 2, 3] rfl ?_
    exact hK
  · have h := jit_f c1 h
    refine j_iload_n 2 (pc' := 13) hC dX2_hoursAt_12 rfl rfl ?_
    refine j_aload_n 0 (pc' := 14) hC dX2_hoursAt_13 rfl rfl ?_
    refine j_getr' (o2 := 34) (pc' := 17) hC dX2_hoursAt_14 rfl fi_X2_31 gx29 rfl ?_
    refine j_iload_n 3 (pc' := 18) hC dX2_hoursAt_17 rfl rfl ?_
    obtain ⟨g2, h⟩ := jg_s h
    refine j_iald (pc' := 19) hC dX2_hoursAt_18 rfl gx34 g2 ?_
    refine j_iload_n 1 (pc' := 20) hC dX2_hoursAt_19 rfl rfl ?_
    obtain ⟨v4, hm6, h⟩ := jlet_s h
    have K5 : jJ Γ GX RX 30 [(0, .ref (jad Γ 29)), (1, .int x1), (2, .int x2), (3, .int x3)] [.int v4, .int x2] M Q := by
      refine j_ior (pc' := 31) hC dX2_hoursAt_30 rfl ?_
      obtain ⟨v8, ev8, h⟩ := jlet_s h
      refine j_istore_n (pc' := 32) hC dX2_hoursAt_31 rfl ev8 (by decide) rfl ?_
      obtain ⟨v9, ev9, h⟩ := jlet_s h
      refine j_iinc' 3 (c := 1) (pc' := 35) hC dX2_hoursAt_32 rfl rfl rfl ev9 (by decide) rfl ?_
      refine j_goto (tgt := 4) (pc' := 0) hC dX2_hoursAt_35 (by decide) ?_
      refine j_sub [2, 3, 1, 0] rfl ?_
      exact ih _ _ _ _ _ _ h hK
    refine j_icmp_ne (tgt := 29) (pc' := 23) hC dX2_hoursAt_20 (by decide) rfl (fun c7 => ?_) (fun c7 => ?_)
    · have hm6 := jit_f c7 hm6
      refine j_iconst (v := 0) (pc' := 30) hC dX2_hoursAt_29 rfl rfl ?_
      subst hm6
      exact j_sub [0, 1, 2, 3] rfl K5
    · have hm6 := jit_t c7 hm6
      refine j_iconst (v := 1) (pc' := 24) hC dX2_hoursAt_23 rfl rfl ?_
      refine j_iload_n 3 (pc' := 25) hC dX2_hoursAt_24 rfl rfl ?_
      refine j_ishl (pc' := 26) hC dX2_hoursAt_25 rfl ?_
      refine j_goto (tgt := 30) (pc' := 0) hC dX2_hoursAt_26 (by decide) ?_
      subst hm6
      exact j_sub [0, 1, 2, 3] rfl K5
theorem lp_X2_hoursAt_L4 {Γ : jG} (hC : jOK Γ cX2_hoursAt 4 RX2 (some .int) { frames := 0, cells := 0, slots := 0, locals := 0 }) {Q : State → Prop} : ∀ (n : Nat) (x1 : Int32) (x2 : Int32) (x3 : Int32) (M : jM) (e2 : Int32) (e3 : Int32), f_X2_hoursAt_L4 n x1 x2 x3 M = some (e2, e3) → jJ Γ GX RX 38 [(0, .ref (jad Γ 29)), (1, .int x1), (2, .int e2), (3, .int e3)] [] M Q → jJ Γ GX RX 4 [(0, .ref (jad Γ 29)), (1, .int x1), (2, .int x2), (3, .int x3)] [] M Q := by
  intro n
  induction n with
  | zero =>
    intro x1 x2 x3 M e2 e3 h hK
    exact jno h
  | succ n ih =>
    intro x1 x2 x3 M e2 e3 h hK
    exact lp_X2_hoursAt_L4_b hC (f_X2_hoursAt_L4 n) ih x1 x2 x3 M e2 e3 h hK
theorem t_X2_hoursAt (l : Launch) (E : jE) {a1 : Int32} {M : jM} {r : Int32} (h : f_X2_hoursAt a1 M = some r) : jCi l yX2_hoursAt cX2_hoursAt 4 (some .int) 0 0 E RX GX (fun a _ => [.ref (a 29), .int a1]) M r M := by
  refine jCi_of (own := RX2) (by decide) rfl (fun _ _ => Nat.le_of_ble_eq_true rfl) ?_
  intro Γ hC
  show jJ Γ GX RX 0 [(0, .ref (jad Γ 29)), (1, .int a1)] [] M (jQi Γ RX GX r M)
  unfold f_X2_hoursAt at h
  refine j_iconst (v := 0) (pc' := 1) hC dX2_hoursAt_0 rfl rfl ?_
  refine j_istore_n (pc' := 2) hC dX2_hoursAt_1 rfl rfl (by decide) rfl ?_
  refine j_iconst (v := 0) (pc' := 3) hC dX2_hoursAt_2 rfl rfl ?_
  refine j_istore_n (pc' := 4) hC dX2_hoursAt_3 rfl rfl (by decide) rfl ?_
  refine j_sub [2, 3, 1, 0] rfl ?_
  obtain ⟨v1, v2, hm3, h⟩ := jb2_s h
  refine lp_X2_hoursAt_L4 hC  jfu a1 (0 : Int32) (0 : Int32) M v1 v2 hm3 ?_
  refine j_iload_n 2 (pc' := 39) hC dX2_hoursAt_38 rfl rfl ?_
  have q8 := jinj1 h
  subst q8
  exact j_iret hC dX2_hoursAt_39
theorem lp_X5_hoursLeftFor_L17_b {Γ : jG} (hC : jOK Γ cX5_hoursLeftFor 5 RX5 (some .int) { frames := 1, cells := 0, slots := 0, locals := 24 }) {Q : State → Prop} (o1 : Nat) (n1 : Nat) (ho1 : GX[o1]? = some (0, n1)) (rec : Int32 → Int32 → Int32 → jM → Option (Int32 × Int32)) (ih : ∀ (x2 : Int32) (x3 : Int32) (x4 : Int32) (M : jM) (e3 : Int32) (e4 : Int32), rec x2 x3 x4 M = some (e3, e4) → jJ Γ GX RX 47 [(0, .ref (jad Γ 0)), (1, .ref (jad Γ o1)), (2, .int x2), (3, .int e3), (4, .int e4)] [] M Q → jJ Γ GX RX 17 [(0, .ref (jad Γ 0)), (1, .ref (jad Γ o1)), (2, .int x2), (3, .int x3), (4, .int x4)] [] M Q) (x2 : Int32) (x3 : Int32) (x4 : Int32) (M : jM) (e3 : Int32) (e4 : Int32) (h : f_X5_hoursLeftFor_L17_b o1 n1 rec x2 x3 x4 M = some (e3, e4)) (hK : jJ Γ GX RX 47 [(0, .ref (jad Γ 0)), (1, .ref (jad Γ o1)), (2, .int x2), (3, .int e3), (4, .int e4)] [] M Q) : jJ Γ GX RX 17 [(0, .ref (jad Γ 0)), (1, .ref (jad Γ o1)), (2, .int x2), (3, .int x3), (4, .int x4)] [] M Q := by
  unfold f_X5_hoursLeftFor_L17_b at h
  refine j_iload 4 (pc' := 19) hC dX5_hoursLeftFor_17 rfl rfl ?_
  refine j_iload_n 2 (pc' := 20) hC dX5_hoursLeftFor_19 rfl rfl ?_
  refine j_icmp_ge (tgt := 47) (pc' := 23) hC dX5_hoursLeftFor_20 (by decide) rfl (fun c1 => ?_) (fun c1 => ?_)
  · have h := jit_t c1 h
    obtain ⟨q0, q1⟩ := jinj2 h
    subst q0
    subst q1
    refine j_sub [0, 1, 2, 3, 4] rfl ?_
    exact hK
  · have h := jit_f c1 h
    refine j_iload_n 3 (pc' := 24) hC dX5_hoursLeftFor_23 rfl rfl ?_
    refine j_aload_n 1 (pc' := 25) hC dX5_hoursLeftFor_24 rfl rfl ?_
    refine j_iload 4 (pc' := 27) hC dX5_hoursLeftFor_25 rfl rfl ?_
    obtain ⟨g2, h⟩ := jg_s h
    refine j_iald (pc' := 28) hC dX5_hoursLeftFor_27 rfl ho1 g2 ?_
    refine j_aload_n 1 (pc' := 29) hC dX5_hoursLeftFor_28 rfl rfl ?_
    refine j_iload_n 2 (pc' := 30) hC dX5_hoursLeftFor_29 rfl rfl ?_
    obtain ⟨g3, h⟩ := jg_s h
    refine j_iald (pc' := 31) hC dX5_hoursLeftFor_30 rfl ho1 g3 ?_
    obtain ⟨v5, hm7, h⟩ := jlet_s h
    have K6 : jJ Γ GX RX 39 [(0, .ref (jad Γ 0)), (1, .ref (jad Γ o1)), (2, .int x2), (3, .int x3), (4, .int x4)] [.int v5, .int x3] M Q := by
      refine j_isub (pc' := 40) hC dX5_hoursLeftFor_39 rfl ?_
      obtain ⟨v9, ev9, h⟩ := jlet_s h
      refine j_istore_n (pc' := 41) hC dX5_hoursLeftFor_40 rfl ev9 (by decide) rfl ?_
      obtain ⟨v10, ev10, h⟩ := jlet_s h
      refine j_iinc' 4 (c := 1) (pc' := 44) hC dX5_hoursLeftFor_41 rfl rfl rfl ev10 (by decide) rfl ?_
      refine j_goto (tgt := 17) (pc' := 0) hC dX5_hoursLeftFor_44 (by decide) ?_
      refine j_sub [2, 3, 4, 1, 0] rfl ?_
      exact ih _ _ _ _ _ _ h hK
    refine j_icmp_ne (tgt := 38) (pc' := 34) hC dX5_hoursLeftFor_31 (by decide) rfl (fun c8 => ?_) (fun c8 => ?_)
    · have hm7 := jit_f c8 hm7
      refine j_iconst (v := 0) (pc' := 39) hC dX5_hoursLeftFor_38 rfl rfl ?_
      subst hm7
      exact j_sub [0, 1, 2, 3, 4] rfl K6
    · have hm7 := jit_t c8 hm7
      refine j_iconst (v := 1) (pc' := 35) hC dX5_hoursLeftFor_34 rfl rfl ?_
      refine j_goto (tgt := 39) (pc' := 0) hC dX5_hoursLeftFor_35 (by decide) ?_
      subst hm7
      exact j_sub [0, 1, 2, 3, 4] rfl K6
theorem lp_X5_hoursLeftFor_L17 {Γ : jG} (hC : jOK Γ cX5_hoursLeftFor 5 RX5 (some .int) { frames := 1, cells := 0, slots := 0, locals := 24 }) {Q : State → Prop} (o1 : Nat) (n1 : Nat) (ho1 : GX[o1]? = some (0, n1)) : ∀ (n : Nat) (x2 : Int32) (x3 : Int32) (x4 : Int32) (M : jM) (e3 : Int32) (e4 : Int32), f_X5_hoursLeftFor_L17 o1 n1 n x2 x3 x4 M = some (e3, e4) → jJ Γ GX RX 47 [(0, .ref (jad Γ 0)), (1, .ref (jad Γ o1)), (2, .int x2), (3, .int e3), (4, .int e4)] [] M Q → jJ Γ GX RX 17 [(0, .ref (jad Γ 0)), (1, .ref (jad Γ o1)), (2, .int x2), (3, .int x3), (4, .int x4)] [] M Q := by
  intro n
  induction n with
  | zero =>
    intro x2 x3 x4 M e3 e4 h hK
    exact jno h
  | succ n ih =>
    intro x2 x3 x4 M e3 e4 h hK
    exact lp_X5_hoursLeftFor_L17_b hC o1 n1 ho1 (f_X5_hoursLeftFor_L17 o1 n1 n) ih x2 x3 x4 M e3 e4 h hK
theorem t_X5_hoursLeftFor (l : Launch) (E : jE) {o1 : Nat} {n1 : Nat} {a2 : Int32} (ho1 : GX[o1]? = some (0, n1)) {M : jM} {r : Int32} (h : f_X5_hoursLeftFor o1 n1 a2 M = some r) : jCi l yX5_hoursLeftFor cX5_hoursLeftFor 5 (some .int) 1 24 E RX GX (fun a _ => [.ref (a 0), .ref (a o1), .int a2]) M r M := by
  refine jCi_of (own := RX5) (by decide) rfl (fun _ _ => Nat.le_of_ble_eq_true rfl) ?_
  intro Γ hC
  show jJ Γ GX RX 0 [(0, .ref (jad Γ 0)), (1, .ref (jad Γ o1)), (2, .int a2)] [] M (jQi Γ RX GX r M)
  unfold f_X5_hoursLeftFor at h
  refine j_aload_n 0 (pc' := 1) hC dX5_hoursLeftFor_0 rfl rfl ?_
  refine j_getr' (o2 := 29) (pc' := 4) hC dX5_hoursLeftFor_1 rfl fi_X5_31 gx0 rfl ?_
  refine j_aload_n 1 (pc' := 5) hC dX5_hoursLeftFor_4 rfl rfl ?_
  refine j_iload_n 2 (pc' := 6) hC dX5_hoursLeftFor_5 rfl rfl ?_
  obtain ⟨g1, h⟩ := jg_s h
  refine j_iald (pc' := 7) hC dX5_hoursLeftFor_6 rfl ho1 g1 ?_
  obtain ⟨r2, hc3, h⟩ := jb1_s h
  refine j_callVi [.int (gi M o1 a2.toNatClampNeg)] (pc' := 10) hC dX5_hoursLeftFor_7 rfl (t_X2_hoursAt _ _ hc3) gx29 vcl2 cv_X5_291 ⟨⟨Nat.le_of_ble_eq_true rfl, Nat.le_of_ble_eq_true rfl⟩, rfl, Nat.le_of_ble_eq_true rfl⟩ rfl rfl ?_
  obtain ⟨r4, hc5, h⟩ := jb1_s h
  refine j_callSi [.int r2] (pc' := 13) hC dX5_hoursLeftFor_10 rfl (t_J6_bitCount_0f7a4 _ _ hc5) cs_X5_173 ⟨⟨Nat.le_of_ble_eq_true rfl, Nat.le_of_ble_eq_true rfl⟩, rfl, Nat.le_of_ble_eq_true rfl⟩ rfl rfl ?_
  refine j_istore_n (pc' := 14) hC dX5_hoursLeftFor_13 rfl rfl (by decide) rfl ?_
  refine j_iconst (v := 0) (pc' := 15) hC dX5_hoursLeftFor_14 rfl rfl ?_
  refine j_istore (pc' := 17) hC dX5_hoursLeftFor_15 rfl rfl (by decide) rfl ?_
  refine j_sub [2, 3, 4, 1, 0] rfl ?_
  obtain ⟨v6, v7, hm8, h⟩ := jb2_s h
  refine lp_X5_hoursLeftFor_L17 hC o1 n1 ho1 jfu a2 r4 (0 : Int32) M v6 v7 hm8 ?_
  refine j_iconst (v := 0) (pc' := 48) hC dX5_hoursLeftFor_47 rfl rfl ?_
  refine j_iload_n 3 (pc' := 49) hC dX5_hoursLeftFor_48 rfl rfl ?_
  refine j_mmax (pc' := 52) hC dX5_hoursLeftFor_49 rfl cm_X5_234 ⟨Nat.le_of_ble_eq_true rfl, Nat.le_of_ble_eq_true rfl⟩ ?_
  have q8 := jinj1 h
  subst q8
  exact j_iret hC dX5_hoursLeftFor_52
theorem lp_X5_diary_L17_b {Γ : jG} (hC : jOK Γ cX5_diary 5 RX5 (some .int) { frames := 4, cells := 0, slots := 0, locals := 88 }) {Q : State → Prop} (x2 : Int32) (rec : Int32 → Int32 → Int32 → jM → Option (Int32 × Int32)) (ih : ∀ (x1 : Int32) (x3 : Int32) (x4 : Int32) (M : jM) (e3 : Int32) (e4 : Int32), rec x1 x3 x4 M = some (e3, e4) → jJ Γ GX RX 55 [(0, .ref (jad Γ 0)), (1, .int x1), (2, .int x2), (3, .int e3), (4, .int e4)] [] M Q → jJ Γ GX RX 17 [(0, .ref (jad Γ 0)), (1, .int x1), (2, .int x2), (3, .int x3), (4, .int x4)] [] M Q) (x1 : Int32) (x3 : Int32) (x4 : Int32) (M : jM) (e3 : Int32) (e4 : Int32) (h : f_X5_diary_L17_b rec x1 x3 x4 M = some (e3, e4)) (hK : jJ Γ GX RX 55 [(0, .ref (jad Γ 0)), (1, .int x1), (2, .int x2), (3, .int e3), (4, .int e4)] [] M Q) : jJ Γ GX RX 17 [(0, .ref (jad Γ 0)), (1, .int x1), (2, .int x2), (3, .int x3), (4, .int x4)] [] M Q := by
  unfold f_X5_diary_L17_b at h
  refine j_iload 4 (pc' := 19) hC dX5_diary_17 rfl rfl ?_
  refine j_aload_n 0 (pc' := 20) hC dX5_diary_19 rfl rfl ?_
  refine j_getr' (o2 := 1) (pc' := 23) hC dX5_diary_20 rfl fi_X5_14 gx0 rfl ?_
  refine j_getr' (o2 := 2) (pc' := 26) hC dX5_diary_23 rfl fi_X5_108 gx1 rfl ?_
  refine j_iload_n 1 (pc' := 27) hC dX5_diary_26 rfl rfl ?_
  obtain ⟨g1, h⟩ := jg_s h
  refine j_iald (pc' := 28) hC dX5_diary_27 rfl gx2 g1 ?_
  refine j_icmp_ge (tgt := 55) (pc' := 31) hC dX5_diary_28 (by decide) rfl (fun c2 => ?_) (fun c2 => ?_)
  · have h := jit_t c2 h
    obtain ⟨q0, q1⟩ := jinj2 h
    subst q0
    subst q1
    refine j_sub [0, 1, 2, 3, 4] rfl ?_
    exact hK
  · have h := jit_f c2 h
    refine j_iload_n 3 (pc' := 32) hC dX5_diary_31 rfl rfl ?_
    refine j_aload_n 0 (pc' := 33) hC dX5_diary_32 rfl rfl ?_
    refine j_aload_n 0 (pc' := 34) hC dX5_diary_33 rfl rfl ?_
    refine j_getr' (o2 := 1) (pc' := 37) hC dX5_diary_34 rfl fi_X5_14 gx0 rfl ?_
    refine j_getr' (o2 := 3) (pc' := 40) hC dX5_diary_37 rfl fi_X5_100 gx1 rfl ?_
    refine j_iload_n 1 (pc' := 41) hC dX5_diary_40 rfl rfl ?_
    obtain ⟨g3, h⟩ := jg_s h
    refine j_aald4 (o2 := (4 + x1.toNatClampNeg)) (pc' := 42) hC dX5_diary_41 rfl gx3 g3 (rxc3 g3) ?_
    refine j_iload 4 (pc' := 44) hC dX5_diary_42 rfl rfl ?_
    obtain ⟨r4, hc5, h⟩ := jb1_s h
    refine j_callVi [.ref (jad Γ (4 + x1.toNatClampNeg)), .int x4] (pc' := 47) hC dX5_diary_44 rfl (t_X5_hoursLeftFor _ _ (gxc3 g3) hc5) gx0 vcl5 cv_X5_288 ⟨⟨Nat.le_of_ble_eq_true rfl, Nat.le_of_ble_eq_true rfl⟩, rfl, Nat.le_of_ble_eq_true rfl⟩ rfl rfl ?_
    refine j_imul (pc' := 48) hC dX5_diary_47 rfl ?_
    obtain ⟨v6, ev6, h⟩ := jlet_s h
    refine j_istore_n (pc' := 49) hC dX5_diary_48 rfl ev6 (by decide) rfl ?_
    obtain ⟨v7, ev7, h⟩ := jlet_s h
    refine j_iinc' 4 (c := 1) (pc' := 52) hC dX5_diary_49 rfl rfl rfl ev7 (by decide) rfl ?_
    refine j_goto (tgt := 17) (pc' := 0) hC dX5_diary_52 (by decide) ?_
    refine j_sub [2, 3, 4, 1, 0] rfl ?_
    exact ih _ _ _ _ _ _ h hK
theorem lp_X5_diary_L17 {Γ : jG} (hC : jOK Γ cX5_diary 5 RX5 (some .int) { frames := 4, cells := 0, slots := 0, locals := 88 }) {Q : State → Prop} (x2 : Int32) : ∀ (n : Nat) (x1 : Int32) (x3 : Int32) (x4 : Int32) (M : jM) (e3 : Int32) (e4 : Int32), f_X5_diary_L17 n x1 x3 x4 M = some (e3, e4) → jJ Γ GX RX 55 [(0, .ref (jad Γ 0)), (1, .int x1), (2, .int x2), (3, .int e3), (4, .int e4)] [] M Q → jJ Γ GX RX 17 [(0, .ref (jad Γ 0)), (1, .int x1), (2, .int x2), (3, .int x3), (4, .int x4)] [] M Q := by
  intro n
  induction n with
  | zero =>
    intro x1 x3 x4 M e3 e4 h hK
    exact jno h
  | succ n ih =>
    intro x1 x3 x4 M e3 e4 h hK
    exact lp_X5_diary_L17_b hC x2 (f_X5_diary_L17 n) ih x1 x3 x4 M e3 e4 h hK
theorem t_X5_diary (l : Launch) (E : jE) {a1 : Int32} {M : jM} {r : Int32} {M' : jM} (h : f_X5_diary a1 M = some (r, M')) : jCi l yX5_diary cX5_diary 5 (some .int) 4 88 E RX GX (fun a _ => [.ref (a 0), .int a1]) M r M' := by
  refine jCi_of (own := RX5) (by decide) rfl (fun _ _ => Nat.le_of_ble_eq_true rfl) ?_
  intro Γ hC
  show jJ Γ GX RX 0 [(0, .ref (jad Γ 0)), (1, .int a1)] [] M (jQi Γ RX GX r M')
  unfold f_X5_diary at h
  refine j_aload_n 0 (pc' := 1) hC dX5_diary_0 rfl rfl ?_
  refine j_iload_n 1 (pc' := 2) hC dX5_diary_1 rfl rfl ?_
  obtain ⟨r1, M2, hc3, h⟩ := jb2_s h
  refine j_callVi [.int a1] (pc' := 5) hC dX5_diary_2 rfl (t_X5_diaryRefusal _ _ hc3) gx0 vcl5 cv_X5_285 ⟨⟨Nat.le_of_ble_eq_true rfl, Nat.le_of_ble_eq_true rfl⟩, rfl, Nat.le_of_ble_eq_true rfl⟩ rfl rfl ?_
  refine j_istore_n (pc' := 6) hC dX5_diary_5 rfl rfl (by decide) rfl ?_
  refine j_iload_n 0 (pc' := 7) hC dX5_diary_6 rfl rfl ?_
  refine j_if_eq (tgt := 12) (pc' := 10) hC dX5_diary_7 (by decide) rfl (fun c4 => ?_) (fun c4 => ?_)
  · have h := jit_t c4 h
    refine j_iconst (v := 1) (pc' := 13) hC dX5_diary_12 rfl rfl ?_
    refine j_istore_n (pc' := 14) hC dX5_diary_13 rfl rfl (by decide) rfl ?_
    refine j_iconst (v := 0) (pc' := 15) hC dX5_diary_14 rfl rfl ?_
    refine j_istore (pc' := 17) hC dX5_diary_15 rfl rfl (by decide) rfl ?_
    refine j_sub [3, 4, 2, 1, 0] rfl ?_
    obtain ⟨v5, v6, hm7, h⟩ := jb2_s h
    refine lp_X5_diary_L17 hC r1 jfu a1 (1 : Int32) (0 : Int32) M2 v5 v6 hm7 ?_
    refine j_aload_n 0 (pc' := 56) hC dX5_diary_55 rfl rfl ?_
    refine j_getr' (o2 := 1) (pc' := 59) hC dX5_diary_56 rfl fi_X5_14 gx0 rfl ?_
    refine j_getr' (o2 := 2) (pc' := 62) hC dX5_diary_59 rfl fi_X5_108 gx1 rfl ?_
    refine j_iload_n 1 (pc' := 63) hC dX5_diary_62 rfl rfl ?_
    obtain ⟨g8, h⟩ := jg_s h
    refine j_iald (pc' := 64) hC dX5_diary_63 rfl gx2 g8 ?_
    obtain ⟨v11, hm13, h⟩ := jlet_s h
    have K12 : jJ Γ GX RX 76 [(0, .ref (jad Γ 0)), (1, .int a1), (2, .int r1), (3, .int v5), (4, .int v6)] [.int v11] M2 (jQi Γ RX GX r M') := by
      refine j_istore (pc' := 78) hC dX5_diary_76 rfl rfl (by decide) rfl ?_
      refine j_aload_n 1 (pc' := 79) hC dX5_diary_78 rfl rfl ?_
      refine j_iload 0 (pc' := 81) hC dX5_diary_79 rfl rfl ?_
      obtain ⟨v22, hm24, h⟩ := jb1_s h
      have K23 : jJ Γ GX RX 110 [(0, .ref (jad Γ 0)), (1, .int a1), (2, .int r1), (3, .int v5), (4, .int v11)] [.int v22, .ref (jad Γ 0)] M2 (jQi Γ RX GX r M') := by
        obtain ⟨M31, eM31, h⟩ := jlet_s h
        refine j_puti' (pc' := 113) hC dX5_diary_110 rfl fp_X5_67 gx0 eM31 ?_
        refine j_iload_n 3 (pc' := 114) hC dX5_diary_113 rfl rfl ?_
        obtain ⟨q0, q1⟩ := jinj2 h
        subst q0
        subst q1
        exact j_iret hC dX5_diary_114
      refine j_if_eq (tgt := 108) (pc' := 84) hC dX5_diary_81 (by decide) rfl (fun c25 => ?_) (fun c25 => ?_)
      · have hm24 := jit_t c25 hm24
        refine j_bipush (v := -9) (pc' := 110) hC dX5_diary_108 rfl rfl ?_
        have q8 := jinj1 hm24
        subst q8
        exact j_sub [1, 2, 3, 4, 0] rfl K23
      · have hm24 := jit_f c25 hm24
        refine j_aload_n 1 (pc' := 85) hC dX5_diary_84 rfl rfl ?_
        refine j_getr' (o2 := 29) (pc' := 88) hC dX5_diary_85 rfl fi_X5_31 gx0 rfl ?_
        refine j_aload_n 1 (pc' := 89) hC dX5_diary_88 rfl rfl ?_
        refine j_getr' (o2 := 1) (pc' := 92) hC dX5_diary_89 rfl fi_X5_14 gx0 rfl ?_
        refine j_getr' (o2 := 3) (pc' := 95) hC dX5_diary_92 rfl fi_X5_100 gx1 rfl ?_
        refine j_iload_n 2 (pc' := 96) hC dX5_diary_95 rfl rfl ?_
        obtain ⟨g26, hm24⟩ := jg_s hm24
        refine j_aald4 (o2 := (4 + a1.toNatClampNeg)) (pc' := 97) hC dX5_diary_96 rfl gx3 g26 (rxc3 g26) ?_
        refine j_iconst (v := 0) (pc' := 98) hC dX5_diary_97 rfl rfl ?_
        refine j_iald (pc' := 99) hC dX5_diary_98 rfl (gxc3 g26) (by decide) ?_
        obtain ⟨r27, hc28, hm24⟩ := jb1_s hm24
        refine j_callVi [.int (gi M2 (4 + a1.toNatClampNeg) (0 : Int32).toNatClampNeg)] (pc' := 102) hC dX5_diary_99 rfl (t_X2_hoursAt _ _ hc28) gx29 vcl2 cv_X5_291 ⟨⟨Nat.le_of_ble_eq_true rfl, Nat.le_of_ble_eq_true rfl⟩, rfl, Nat.le_of_ble_eq_true rfl⟩ rfl rfl ?_
        obtain ⟨r29, hc30, hm24⟩ := jb1_s hm24
        refine j_callSi [.int r27] (pc' := 105) hC dX5_diary_102 rfl (t_X5_firstOf _ _ hc30) cs_X5_222 ⟨⟨Nat.le_of_ble_eq_true rfl, Nat.le_of_ble_eq_true rfl⟩, rfl, Nat.le_of_ble_eq_true rfl⟩ rfl rfl ?_
        refine j_goto (tgt := 110) (pc' := 0) hC dX5_diary_105 (by decide) ?_
        have q8 := jinj1 hm24
        subst q8
        exact j_sub [1, 2, 3, 4, 0] rfl K23
    refine j_if_le (tgt := 75) (pc' := 67) hC dX5_diary_64 (by decide) rfl (fun c14 => ?_) (fun c14 => ?_)
    · have hm13 := jit_t c14 hm13
      refine j_iconst (v := 0) (pc' := 76) hC dX5_diary_75 rfl rfl ?_
      subst hm13
      exact j_sub [0, 1, 2, 3, 4] rfl K12
    · have hm13 := jit_f c14 hm13
      refine j_iload_n 3 (pc' := 68) hC dX5_diary_67 rfl rfl ?_
      refine j_if_le (tgt := 75) (pc' := 71) hC dX5_diary_68 (by decide) rfl (fun c15 => ?_) (fun c15 => ?_)
      · have hm13 := jit_t c15 hm13
        refine j_iconst (v := 0) (pc' := 76) hC dX5_diary_75 rfl rfl ?_
        subst hm13
        exact j_sub [0, 1, 2, 3, 4] rfl K12
      · have hm13 := jit_f c15 hm13
        refine j_iconst (v := 1) (pc' := 72) hC dX5_diary_71 rfl rfl ?_
        refine j_goto (tgt := 76) (pc' := 0) hC dX5_diary_72 (by decide) ?_
        subst hm13
        exact j_sub [0, 1, 2, 3, 4] rfl K12
  · have h := jit_f c4 h
    refine j_iload_n 0 (pc' := 11) hC dX5_diary_10 rfl rfl ?_
    obtain ⟨q0, q1⟩ := jinj2 h
    subst q0
    subst q1
    exact j_iret hC dX5_diary_11
theorem lp_X5_forged_L14_b {Γ : jG} (hC : jOK Γ cX5_forged 4 RX5 (some .int) { frames := 4, cells := 0, slots := 0, locals := 88 }) {Q : State → Prop} (x2 : Int32) (rec : Int32 → Int32 → jM → Option ((Int32 × jM) ⊕ (Int32))) (ih : ∀ (x1 : Int32) (x3 : Int32) (M : jM) (res : (Int32 × jM) ⊕ (Int32)), rec x1 x3 M = some res → (∀ (r : Int32) (M' : jM), res = .inl (r, M') → Q = jQi Γ RX GX r M') → (∀ (e3 : Int32), res = .inr e3 → jJ Γ GX RX 52 [(0, .ref (jad Γ 0)), (1, .int x1), (2, .int x2), (3, .int e3)] [] M Q) → jJ Γ GX RX 14 [(0, .ref (jad Γ 0)), (1, .int x1), (2, .int x2), (3, .int x3)] [] M Q) (x1 : Int32) (x3 : Int32) (M : jM) (res : (Int32 × jM) ⊕ (Int32)) (h : f_X5_forged_L14_b rec x1 x3 M = some res) (hQ : ∀ (r : Int32) (M' : jM), res = .inl (r, M') → Q = jQi Γ RX GX r M') (hK : ∀ (e3 : Int32), res = .inr e3 → jJ Γ GX RX 52 [(0, .ref (jad Γ 0)), (1, .int x1), (2, .int x2), (3, .int e3)] [] M Q) : jJ Γ GX RX 14 [(0, .ref (jad Γ 0)), (1, .int x1), (2, .int x2), (3, .int x3)] [] M Q := by
  unfold f_X5_forged_L14_b at h
  refine j_iload_n 3 (pc' := 15) hC dX5_forged_14 rfl rfl ?_
  refine j_aload_n 0 (pc' := 16) hC dX5_forged_15 rfl rfl ?_
  refine j_getr' (o2 := 1) (pc' := 19) hC dX5_forged_16 rfl fi_X5_14 gx0 rfl ?_
  refine j_getr' (o2 := 2) (pc' := 22) hC dX5_forged_19 rfl fi_X5_108 gx1 rfl ?_
  refine j_iload_n 1 (pc' := 23) hC dX5_forged_22 rfl rfl ?_
  obtain ⟨g1, h⟩ := jg_s h
  refine j_iald (pc' := 24) hC dX5_forged_23 rfl gx2 g1 ?_
  refine j_icmp_ge (tgt := 52) (pc' := 27) hC dX5_forged_24 (by decide) rfl (fun c2 => ?_) (fun c2 => ?_)
  · have h := jit_t c2 h
    have q8 := jinj1 h
    subst q8
    refine j_sub [0, 1, 2, 3] rfl ?_
    exact hK _ rfl
  · have h := jit_f c2 h
    refine j_aload_n 0 (pc' := 28) hC dX5_forged_27 rfl rfl ?_
    refine j_aload_n 0 (pc' := 29) hC dX5_forged_28 rfl rfl ?_
    refine j_getr' (o2 := 1) (pc' := 32) hC dX5_forged_29 rfl fi_X5_14 gx0 rfl ?_
    refine j_getr' (o2 := 3) (pc' := 35) hC dX5_forged_32 rfl fi_X5_100 gx1 rfl ?_
    refine j_iload_n 1 (pc' := 36) hC dX5_forged_35 rfl rfl ?_
    obtain ⟨g3, h⟩ := jg_s h
    refine j_aald4 (o2 := (4 + x1.toNatClampNeg)) (pc' := 37) hC dX5_forged_36 rfl gx3 g3 (rxc3 g3) ?_
    refine j_iload_n 3 (pc' := 38) hC dX5_forged_37 rfl rfl ?_
    obtain ⟨r4, hc5, h⟩ := jb1_s h
    refine j_callVi [.ref (jad Γ (4 + x1.toNatClampNeg)), .int x3] (pc' := 41) hC dX5_forged_38 rfl (t_X5_hoursLeftFor _ _ (gxc3 g3) hc5) gx0 vcl5 cv_X5_288 ⟨⟨Nat.le_of_ble_eq_true rfl, Nat.le_of_ble_eq_true rfl⟩, rfl, Nat.le_of_ble_eq_true rfl⟩ rfl rfl ?_
    refine j_if_ne (tgt := 46) (pc' := 44) hC dX5_forged_41 (by decide) rfl (fun c6 => ?_) (fun c6 => ?_)
    · have h := jit_f c6 h
      obtain ⟨v7, ev7, h⟩ := jlet_s h
      refine j_iinc' 3 (c := 1) (pc' := 49) hC dX5_forged_46 rfl rfl rfl ev7 (by decide) rfl ?_
      refine j_goto (tgt := 14) (pc' := 0) hC dX5_forged_49 (by decide) ?_
      refine j_sub [1, 2, 3, 0] rfl ?_
      exact ih _ _ _ res h hQ hK
    · have h := jit_t c6 h
      refine j_iload_n 3 (pc' := 45) hC dX5_forged_44 rfl rfl ?_
      have q8 := jinj1 h
      subst q8
      rw [hQ _ _ rfl]
      exact j_iret hC dX5_forged_45
theorem lp_X5_forged_L14 {Γ : jG} (hC : jOK Γ cX5_forged 4 RX5 (some .int) { frames := 4, cells := 0, slots := 0, locals := 88 }) {Q : State → Prop} (x2 : Int32) : ∀ (n : Nat) (x1 : Int32) (x3 : Int32) (M : jM) (res : (Int32 × jM) ⊕ (Int32)), f_X5_forged_L14 n x1 x3 M = some res → (∀ (r : Int32) (M' : jM), res = .inl (r, M') → Q = jQi Γ RX GX r M') → (∀ (e3 : Int32), res = .inr e3 → jJ Γ GX RX 52 [(0, .ref (jad Γ 0)), (1, .int x1), (2, .int x2), (3, .int e3)] [] M Q) → jJ Γ GX RX 14 [(0, .ref (jad Γ 0)), (1, .int x1), (2, .int x2), (3, .int x3)] [] M Q := by
  intro n
  induction n with
  | zero =>
    intro x1 x3 M res h hQ hK
    exact jno h
  | succ n ih =>
    intro x1 x3 M res h hQ hK
    exact lp_X5_forged_L14_b hC x2 (f_X5_forged_L14 n) ih x1 x3 M res h hQ hK
theorem t_X5_forged (l : Launch) (E : jE) {a1 : Int32} {M : jM} {r : Int32} {M' : jM} (h : f_X5_forged a1 M = some (r, M')) : jCi l yX5_forged cX5_forged 4 (some .int) 4 88 E RX GX (fun a _ => [.ref (a 0), .int a1]) M r M' := by
  refine jCi_of (own := RX5) (by decide) rfl (fun _ _ => Nat.le_of_ble_eq_true rfl) ?_
  intro Γ hC
  show jJ Γ GX RX 0 [(0, .ref (jad Γ 0)), (1, .int a1)] [] M (jQi Γ RX GX r M')
  unfold f_X5_forged at h
  refine j_aload_n 0 (pc' := 1) hC dX5_forged_0 rfl rfl ?_
  refine j_iload_n 1 (pc' := 2) hC dX5_forged_1 rfl rfl ?_
  obtain ⟨r1, M2, hc3, h⟩ := jb2_s h
  refine j_callVi [.int a1] (pc' := 5) hC dX5_forged_2 rfl (t_X5_diaryRefusal _ _ hc3) gx0 vcl5 cv_X5_285 ⟨⟨Nat.le_of_ble_eq_true rfl, Nat.le_of_ble_eq_true rfl⟩, rfl, Nat.le_of_ble_eq_true rfl⟩ rfl rfl ?_
  refine j_istore_n (pc' := 6) hC dX5_forged_5 rfl rfl (by decide) rfl ?_
  refine j_iload_n 0 (pc' := 7) hC dX5_forged_6 rfl rfl ?_
  refine j_if_eq (tgt := 12) (pc' := 10) hC dX5_forged_7 (by decide) rfl (fun c4 => ?_) (fun c4 => ?_)
  · have h := jit_t c4 h
    refine j_iconst (v := 0) (pc' := 13) hC dX5_forged_12 rfl rfl ?_
    refine j_istore_n (pc' := 14) hC dX5_forged_13 rfl rfl (by decide) rfl ?_
    refine j_sub [2, 3, 1, 0] rfl ?_
    rcases jr1_s h with hm6 | ⟨v5, hm6, h⟩
    · exact lp_X5_forged_L14 hC r1 jfu a1 (0 : Int32) M2 _ hm6 (fun _ _ e => by cases e; rfl) (fun _ e => by cases e)
    · refine lp_X5_forged_L14 hC r1 jfu a1 (0 : Int32) M2 _ hm6 (fun _ _ e => by cases e) (fun _ e => ?_)
      cases e
      refine j_bipush (v := -9) (pc' := 54) hC dX5_forged_52 rfl rfl ?_
      obtain ⟨q0, q1⟩ := jinj2 h
      subst q0
      subst q1
      exact j_iret hC dX5_forged_54
  · have h := jit_f c4 h
    refine j_iload_n 0 (pc' := 11) hC dX5_forged_10 rfl rfl ?_
    obtain ⟨q0, q1⟩ := jinj2 h
    subst q0
    subst q1
    exact j_iret hC dX5_forged_11
theorem t_X5_stolen (l : Launch) (E : jE) {a1 : Int32} {a2 : Int32} {M : jM} {r : Int32} (h : f_X5_stolen a1 a2 M = some r) : jCi l yX5_stolen cX5_stolen 4 (some .int) 2 44 E RX GX (fun a _ => [.ref (a 0), .int a1, .int a2]) M r M := by
  refine jCi_of (own := RX5) (by decide) rfl (fun _ _ => Nat.le_of_ble_eq_true rfl) ?_
  intro Γ hC
  show jJ Γ GX RX 0 [(0, .ref (jad Γ 0)), (1, .int a1), (2, .int a2)] [] M (jQi Γ RX GX r M)
  unfold f_X5_stolen at h
  refine j_iload_n 1 (pc' := 1) hC dX5_stolen_0 rfl rfl ?_
  refine j_if_lt (tgt := 20) (pc' := 4) hC dX5_stolen_1 (by decide) rfl (fun c1 => ?_) (fun c1 => ?_)
  · have h := jit_t c1 h
    refine j_iconst (v := -1) (pc' := 21) hC dX5_stolen_20 rfl rfl ?_
    have q8 := jinj1 h
    subst q8
    exact j_iret hC dX5_stolen_21
  · have h := jit_f c1 h
    refine j_iload_n 1 (pc' := 5) hC dX5_stolen_4 rfl rfl ?_
    refine j_bipush (v := 7) (pc' := 7) hC dX5_stolen_5 rfl rfl ?_
    refine j_icmp_gt (tgt := 20) (pc' := 10) hC dX5_stolen_7 (by decide) rfl (fun c2 => ?_) (fun c2 => ?_)
    · have h := jit_t c2 h
      refine j_iconst (v := -1) (pc' := 21) hC dX5_stolen_20 rfl rfl ?_
      have q8 := jinj1 h
      subst q8
      exact j_iret hC dX5_stolen_21
    · have h := jit_f c2 h
      refine j_iload_n 2 (pc' := 11) hC dX5_stolen_10 rfl rfl ?_
      refine j_if_lt (tgt := 20) (pc' := 14) hC dX5_stolen_11 (by decide) rfl (fun c3 => ?_) (fun c3 => ?_)
      · have h := jit_t c3 h
        refine j_iconst (v := -1) (pc' := 21) hC dX5_stolen_20 rfl rfl ?_
        have q8 := jinj1 h
        subst q8
        exact j_iret hC dX5_stolen_21
      · have h := jit_f c3 h
        refine j_iload_n 2 (pc' := 15) hC dX5_stolen_14 rfl rfl ?_
        refine j_bipush (v := 20) (pc' := 17) hC dX5_stolen_15 rfl rfl ?_
        refine j_icmp_le (tgt := 22) (pc' := 20) hC dX5_stolen_17 (by decide) rfl (fun c4 => ?_) (fun c4 => ?_)
        · have h := jit_t c4 h
          refine j_aload_n 0 (pc' := 23) hC dX5_stolen_22 rfl rfl ?_
          refine j_getr' (o2 := 39) (pc' := 26) hC dX5_stolen_23 rfl fi_X5_40 gx0 rfl ?_
          refine j_iload_n 2 (pc' := 27) hC dX5_stolen_26 rfl rfl ?_
          obtain ⟨r5, hc6, h⟩ := jb1_s h
          refine j_callVi [.int a2] (pc' := 30) hC dX5_stolen_27 rfl (t_X0_comeBits _ _ hc6) gx39 vcl0 cv_X5_294 ⟨⟨Nat.le_of_ble_eq_true rfl, Nat.le_of_ble_eq_true rfl⟩, rfl, Nat.le_of_ble_eq_true rfl⟩ rfl rfl ?_
          refine j_istore_n (pc' := 31) hC dX5_stolen_30 rfl rfl (by decide) rfl ?_
          refine j_iload_n 0 (pc' := 32) hC dX5_stolen_31 rfl rfl ?_
          obtain ⟨r7, hc8, h⟩ := jb1_s h
          refine j_callSi [.int r5] (pc' := 35) hC dX5_stolen_32 rfl (t_J6_bitCount_0f7a4 _ _ hc8) cs_X5_173 ⟨⟨Nat.le_of_ble_eq_true rfl, Nat.le_of_ble_eq_true rfl⟩, rfl, Nat.le_of_ble_eq_true rfl⟩ rfl rfl ?_
          refine j_iload_n 2 (pc' := 36) hC dX5_stolen_35 rfl rfl ?_
          refine j_iconst (v := 1) (pc' := 37) hC dX5_stolen_36 rfl rfl ?_
          refine j_iadd (pc' := 38) hC dX5_stolen_37 rfl ?_
          refine j_icmp_ne (tgt := 45) (pc' := 41) hC dX5_stolen_38 (by decide) rfl (fun c9 => ?_) (fun c9 => ?_)
          · have h := jit_f c9 h
            refine j_iconst (v := 0) (pc' := 46) hC dX5_stolen_45 rfl rfl ?_
            have q8 := jinj1 h
            subst q8
            exact j_iret hC dX5_stolen_46
          · have h := jit_t c9 h
            refine j_iload_n 0 (pc' := 42) hC dX5_stolen_41 rfl rfl ?_
            refine j_goto (tgt := 46) (pc' := 0) hC dX5_stolen_42 (by decide) ?_
            have q8 := jinj1 h
            subst q8
            exact j_iret hC dX5_stolen_46
        · have h := jit_f c4 h
          refine j_iconst (v := -1) (pc' := 21) hC dX5_stolen_20 rfl rfl ?_
          have q8 := jinj1 h
          subst q8
          exact j_iret hC dX5_stolen_21
theorem lp_X1_setsEnoughFor_L4_b {Γ : jG} (hC : jOK Γ cX1_setsEnoughFor 4 RX1 (some .int) { frames := 2, cells := 0, slots := 0, locals := 46 }) {Q : State → Prop} (rec : Int32 → Int32 → Int32 → jM → Option (Int32 × Int32)) (ih : ∀ (x1 : Int32) (x2 : Int32) (x3 : Int32) (M : jM) (e2 : Int32) (e3 : Int32), rec x1 x2 x3 M = some (e2, e3) → jJ Γ GX RX 34 [(0, .ref (jad Γ 65)), (1, .int x1), (2, .int e2), (3, .int e3)] [] M Q → jJ Γ GX RX 4 [(0, .ref (jad Γ 65)), (1, .int x1), (2, .int x2), (3, .int x3)] [] M Q) (x1 : Int32) (x2 : Int32) (x3 : Int32) (M : jM) (e2 : Int32) (e3 : Int32) (h : f_X1_setsEnoughFor_L4_b rec x1 x2 x3 M = some (e2, e3)) (hK : jJ Γ GX RX 34 [(0, .ref (jad Γ 65)), (1, .int x1), (2, .int e2), (3, .int e3)] [] M Q) : jJ Γ GX RX 4 [(0, .ref (jad Γ 65)), (1, .int x1), (2, .int x2), (3, .int x3)] [] M Q := by
  unfold f_X1_setsEnoughFor_L4_b at h
  refine j_iload_n 3 (pc' := 5) hC dX1_setsEnoughFor_4 rfl rfl ?_
  refine j_sipush (v := 128) (pc' := 8) hC dX1_setsEnoughFor_5 rfl rfl ?_
  refine j_icmp_ge (tgt := 34) (pc' := 11) hC dX1_setsEnoughFor_8 (by decide) rfl (fun c1 => ?_) (fun c1 => ?_)
  · have h := jit_t c1 h
    obtain ⟨q0, q1⟩ := jinj2 h
    subst q0
    subst q1
    refine j_sub [0, 1, 2, 3] rfl ?_
    exact hK
  · have h := jit_f c1 h
    refine j_iload_n 2 (pc' := 12) hC dX1_setsEnoughFor_11 rfl rfl ?_
    refine j_aload_n 0 (pc' := 13) hC dX1_setsEnoughFor_12 rfl rfl ?_
    refine j_iload_n 1 (pc' := 14) hC dX1_setsEnoughFor_13 rfl rfl ?_
    refine j_iload_n 3 (pc' := 15) hC dX1_setsEnoughFor_14 rfl rfl ?_
    obtain ⟨r2, hc3, h⟩ := jb1_s h
    refine j_callVi [.int x1, .int x3] (pc' := 18) hC dX1_setsEnoughFor_15 rfl (t_X1_does _ _ hc3) gx65 vcl1 cv_X1_123 ⟨⟨Nat.le_of_ble_eq_true rfl, Nat.le_of_ble_eq_true rfl⟩, rfl, Nat.le_of_ble_eq_true rfl⟩ rfl rfl ?_
    obtain ⟨v5, hm7, h⟩ := jlet_s h
    have K6 : jJ Γ GX RX 26 [(0, .ref (jad Γ 65)), (1, .int x1), (2, .int x2), (3, .int x3)] [.int v5, .int x2] M Q := by
      refine j_iadd (pc' := 27) hC dX1_setsEnoughFor_26 rfl ?_
      obtain ⟨v9, ev9, h⟩ := jlet_s h
      refine j_istore_n (pc' := 28) hC dX1_setsEnoughFor_27 rfl ev9 (by decide) rfl ?_
      obtain ⟨v10, ev10, h⟩ := jlet_s h
      refine j_iinc' 3 (c := 1) (pc' := 31) hC dX1_setsEnoughFor_28 rfl rfl rfl ev10 (by decide) rfl ?_
      refine j_goto (tgt := 4) (pc' := 0) hC dX1_setsEnoughFor_31 (by decide) ?_
      refine j_sub [2, 3, 1, 0] rfl ?_
      exact ih _ _ _ _ _ _ h hK
    refine j_if_eq (tgt := 25) (pc' := 21) hC dX1_setsEnoughFor_18 (by decide) rfl (fun c8 => ?_) (fun c8 => ?_)
    · have hm7 := jit_t c8 hm7
      refine j_iconst (v := 0) (pc' := 26) hC dX1_setsEnoughFor_25 rfl rfl ?_
      subst hm7
      exact j_sub [0, 1, 2, 3] rfl K6
    · have hm7 := jit_f c8 hm7
      refine j_iconst (v := 1) (pc' := 22) hC dX1_setsEnoughFor_21 rfl rfl ?_
      refine j_goto (tgt := 26) (pc' := 0) hC dX1_setsEnoughFor_22 (by decide) ?_
      subst hm7
      exact j_sub [0, 1, 2, 3] rfl K6
theorem lp_X1_setsEnoughFor_L4 {Γ : jG} (hC : jOK Γ cX1_setsEnoughFor 4 RX1 (some .int) { frames := 2, cells := 0, slots := 0, locals := 46 }) {Q : State → Prop} : ∀ (n : Nat) (x1 : Int32) (x2 : Int32) (x3 : Int32) (M : jM) (e2 : Int32) (e3 : Int32), f_X1_setsEnoughFor_L4 n x1 x2 x3 M = some (e2, e3) → jJ Γ GX RX 34 [(0, .ref (jad Γ 65)), (1, .int x1), (2, .int e2), (3, .int e3)] [] M Q → jJ Γ GX RX 4 [(0, .ref (jad Γ 65)), (1, .int x1), (2, .int x2), (3, .int x3)] [] M Q := by
  intro n
  induction n with
  | zero =>
    intro x1 x2 x3 M e2 e3 h hK
    exact jno h
  | succ n ih =>
    intro x1 x2 x3 M e2 e3 h hK
    exact lp_X1_setsEnoughFor_L4_b hC (f_X1_setsEnoughFor_L4 n) ih x1 x2 x3 M e2 e3 h hK
theorem t_X1_setsEnoughFor (l : Launch) (E : jE) {a1 : Int32} {M : jM} {r : Int32} (h : f_X1_setsEnoughFor a1 M = some r) : jCi l yX1_setsEnoughFor cX1_setsEnoughFor 4 (some .int) 2 46 E RX GX (fun a _ => [.ref (a 65), .int a1]) M r M := by
  refine jCi_of (own := RX1) (by decide) rfl (fun _ _ => Nat.le_of_ble_eq_true rfl) ?_
  intro Γ hC
  show jJ Γ GX RX 0 [(0, .ref (jad Γ 65)), (1, .int a1)] [] M (jQi Γ RX GX r M)
  unfold f_X1_setsEnoughFor at h
  refine j_iconst (v := 0) (pc' := 1) hC dX1_setsEnoughFor_0 rfl rfl ?_
  refine j_istore_n (pc' := 2) hC dX1_setsEnoughFor_1 rfl rfl (by decide) rfl ?_
  refine j_iconst (v := 0) (pc' := 3) hC dX1_setsEnoughFor_2 rfl rfl ?_
  refine j_istore_n (pc' := 4) hC dX1_setsEnoughFor_3 rfl rfl (by decide) rfl ?_
  refine j_sub [2, 3, 1, 0] rfl ?_
  obtain ⟨v1, v2, hm3, h⟩ := jb2_s h
  refine lp_X1_setsEnoughFor_L4 hC  jfu a1 (0 : Int32) (0 : Int32) M v1 v2 hm3 ?_
  refine j_iload_n 2 (pc' := 35) hC dX1_setsEnoughFor_34 rfl rfl ?_
  have q8 := jinj1 h
  subst q8
  exact j_iret hC dX1_setsEnoughFor_35
theorem lp_X5_odds_L54_b {Γ : jG} (hC : jOK Γ cX5_odds 8 RX5 (some .int) { frames := 4, cells := 0, slots := 0, locals := 98 }) {Q : State → Prop} (x1 : Int32) (x2 : Int32) (rec : Int64 → Int64 → Int32 → jM → Option (Int64 × Int64 × Int32)) (ih : ∀ (x3 : Int64) (x5 : Int64) (x7 : Int32) (M : jM) (e3 : Int64) (e5 : Int64) (e7 : Int32), rec x3 x5 x7 M = some (e3, e5, e7) → jJ Γ GX RX 102 [(0, .ref (jad Γ 0)), (1, .int x1), (2, .int x2), (3, .long e3), (5, .long e5), (7, .int e7)] [] M Q → jJ Γ GX RX 54 [(0, .ref (jad Γ 0)), (1, .int x1), (2, .int x2), (3, .long x3), (5, .long x5), (7, .int x7)] [] M Q) (x3 : Int64) (x5 : Int64) (x7 : Int32) (M : jM) (e3 : Int64) (e5 : Int64) (e7 : Int32) (h : f_X5_odds_L54_b rec x3 x5 x7 M = some (e3, e5, e7)) (hK : jJ Γ GX RX 102 [(0, .ref (jad Γ 0)), (1, .int x1), (2, .int x2), (3, .long e3), (5, .long e5), (7, .int e7)] [] M Q) : jJ Γ GX RX 54 [(0, .ref (jad Γ 0)), (1, .int x1), (2, .int x2), (3, .long x3), (5, .long x5), (7, .int x7)] [] M Q := by
  unfold f_X5_odds_L54_b at h
  refine j_iload 5 (pc' := 56) hC dX5_odds_54 rfl rfl ?_
  refine j_bipush (v := 7) (pc' := 58) hC dX5_odds_56 rfl rfl ?_
  refine j_icmp_ge (tgt := 102) (pc' := 61) hC dX5_odds_58 (by decide) rfl (fun c1 => ?_) (fun c1 => ?_)
  · have h := jit_t c1 h
    obtain ⟨q0, q1, q2⟩ := jinj3 h
    subst q0
    subst q1
    subst q2
    refine j_sub [0, 1, 2, 3, 4, 5] rfl ?_
    exact hK
  · have h := jit_f c1 h
    refine j_lload_n 3 (pc' := 62) hC dX5_odds_61 rfl rfl ?_
    refine j_ldc2 (pc' := 65) hC dX5_odds_62 rfl ck_X5_300 ?_
    refine j_lrem (pc' := 66) hC dX5_odds_65 rfl (by decide) ?_
    refine j_lconst (v := 0) (pc' := 67) hC dX5_odds_66 rfl rfl ?_
    refine j_lcmp (pc' := 68) hC dX5_odds_67 rfl ?_
    refine j_if_ne (tgt := 102) (pc' := 71) hC dX5_odds_68 (by decide) rfl (fun c2 => ?_) (fun c2 => ?_)
    · have h := jit_f c2 h
      obtain ⟨q0, q1, q2⟩ := jinj3 h
      subst q0
      subst q1
      subst q2
      refine j_sub [0, 1, 2, 3, 4, 5] rfl ?_
      exact hK
    · have h := jit_t c2 h
      refine j_lload 4 (pc' := 73) hC dX5_odds_71 rfl rfl ?_
      refine j_ldc2 (pc' := 76) hC dX5_odds_73 rfl ck_X5_300 ?_
      refine j_lrem (pc' := 77) hC dX5_odds_76 rfl (by decide) ?_
      refine j_lconst (v := 0) (pc' := 78) hC dX5_odds_77 rfl rfl ?_
      refine j_lcmp (pc' := 79) hC dX5_odds_78 rfl ?_
      refine j_if_ne (tgt := 102) (pc' := 82) hC dX5_odds_79 (by decide) rfl (fun c3 => ?_) (fun c3 => ?_)
      · have h := jit_f c3 h
        obtain ⟨q0, q1, q2⟩ := jinj3 h
        subst q0
        subst q1
        subst q2
        refine j_sub [0, 1, 2, 3, 4, 5] rfl ?_
        exact hK
      · have h := jit_t c3 h
        refine j_lload_n 3 (pc' := 83) hC dX5_odds_82 rfl rfl ?_
        refine j_ldc2 (pc' := 86) hC dX5_odds_83 rfl ck_X5_300 ?_
        refine j_ldiv (pc' := 87) hC dX5_odds_86 rfl (by decide) ?_
        obtain ⟨v4, ev4, h⟩ := jlet_s h
        refine j_lstore_n (pc' := 88) hC dX5_odds_87 rfl ev4 (by decide) rfl ?_
        refine j_lload 4 (pc' := 90) hC dX5_odds_88 rfl rfl ?_
        refine j_ldc2 (pc' := 93) hC dX5_odds_90 rfl ck_X5_300 ?_
        refine j_ldiv (pc' := 94) hC dX5_odds_93 rfl (by decide) ?_
        obtain ⟨v5, ev5, h⟩ := jlet_s h
        refine j_lstore (pc' := 96) hC dX5_odds_94 rfl ev5 (by decide) rfl ?_
        obtain ⟨v6, ev6, h⟩ := jlet_s h
        refine j_iinc' 5 (c := 1) (pc' := 99) hC dX5_odds_96 rfl rfl rfl ev6 (by decide) rfl ?_
        refine j_goto (tgt := 54) (pc' := 0) hC dX5_odds_99 (by decide) ?_
        refine j_sub [3, 4, 5, 2, 1, 0] rfl ?_
        exact ih _ _ _ _ _ _ _ h hK
theorem lp_X5_odds_L54 {Γ : jG} (hC : jOK Γ cX5_odds 8 RX5 (some .int) { frames := 4, cells := 0, slots := 0, locals := 98 }) {Q : State → Prop} (x1 : Int32) (x2 : Int32) : ∀ (n : Nat) (x3 : Int64) (x5 : Int64) (x7 : Int32) (M : jM) (e3 : Int64) (e5 : Int64) (e7 : Int32), f_X5_odds_L54 n x3 x5 x7 M = some (e3, e5, e7) → jJ Γ GX RX 102 [(0, .ref (jad Γ 0)), (1, .int x1), (2, .int x2), (3, .long e3), (5, .long e5), (7, .int e7)] [] M Q → jJ Γ GX RX 54 [(0, .ref (jad Γ 0)), (1, .int x1), (2, .int x2), (3, .long x3), (5, .long x5), (7, .int x7)] [] M Q := by
  intro n
  induction n with
  | zero =>
    intro x3 x5 x7 M e3 e5 e7 h hK
    exact jno h
  | succ n ih =>
    intro x3 x5 x7 M e3 e5 e7 h hK
    exact lp_X5_odds_L54_b hC x1 x2 (f_X5_odds_L54 n) ih x3 x5 x7 M e3 e5 e7 h hK
theorem t_X5_odds (l : Launch) (E : jE) {a1 : Int32} {M : jM} {r : Int32} {M' : jM} (h : f_X5_odds a1 M = some (r, M')) : jCi l yX5_odds cX5_odds 8 (some .int) 4 98 E RX GX (fun a _ => [.ref (a 0), .int a1]) M r M' := by
  refine jCi_of (own := RX5) (by decide) rfl (fun _ _ => Nat.le_of_ble_eq_true rfl) ?_
  intro Γ hC
  show jJ Γ GX RX 0 [(0, .ref (jad Γ 0)), (1, .int a1)] [] M (jQi Γ RX GX r M')
  unfold f_X5_odds at h
  refine j_aload_n 0 (pc' := 1) hC dX5_odds_0 rfl rfl ?_
  refine j_getr' (o2 := 29) (pc' := 4) hC dX5_odds_1 rfl fi_X5_31 gx0 rfl ?_
  refine j_iload_n 1 (pc' := 5) hC dX5_odds_4 rfl rfl ?_
  obtain ⟨r1, hc2, h⟩ := jb1_s h
  refine j_callVi [.int a1] (pc' := 8) hC dX5_odds_5 rfl (t_X2_hasDeed _ _ hc2) gx29 vcl2 cv_X5_143 ⟨⟨Nat.le_of_ble_eq_true rfl, Nat.le_of_ble_eq_true rfl⟩, rfl, Nat.le_of_ble_eq_true rfl⟩ rfl rfl ?_
  refine j_if_ne (tgt := 13) (pc' := 11) hC dX5_odds_8 (by decide) rfl (fun c3 => ?_) (fun c3 => ?_)
  · have h := jit_f c3 h
    refine j_aload_n 0 (pc' := 14) hC dX5_odds_13 rfl rfl ?_
    refine j_getr' (o2 := 39) (pc' := 17) hC dX5_odds_14 rfl fi_X5_40 gx0 rfl ?_
    obtain ⟨r4, hc5, h⟩ := jb1_s h
    refine j_callVi [] (pc' := 20) hC dX5_odds_17 rfl (t_X0_shelfBits _ _ hc5) gx39 vcl0 cv_X5_209 ⟨⟨Nat.le_of_ble_eq_true rfl, Nat.le_of_ble_eq_true rfl⟩, rfl, Nat.le_of_ble_eq_true rfl⟩ rfl rfl ?_
    refine j_istore_n (pc' := 21) hC dX5_odds_20 rfl rfl (by decide) rfl ?_
    refine j_aload_n 1 (pc' := 22) hC dX5_odds_21 rfl rfl ?_
    refine j_getr' (o2 := 65) (pc' := 25) hC dX5_odds_22 rfl fi_X5_55 gx0 rfl ?_
    refine j_aload_n 1 (pc' := 26) hC dX5_odds_25 rfl rfl ?_
    refine j_getr' (o2 := 39) (pc' := 29) hC dX5_odds_26 rfl fi_X5_40 gx0 rfl ?_
    refine j_iload_n 0 (pc' := 30) hC dX5_odds_29 rfl rfl ?_
    obtain ⟨M6, hc7, h⟩ := jb1_s h
    refine j_callVv [.ref (jad Γ 39), .int r4] (pc' := 33) hC dX5_odds_30 rfl (t_X1_explore _ _ hc7) gx65 vcl1 cv_X5_254 ⟨⟨Nat.le_of_ble_eq_true rfl, Nat.le_of_ble_eq_true rfl⟩, rfl, Nat.le_of_ble_eq_true rfl⟩ rfl rfl ?_
    refine j_aload_n 1 (pc' := 34) hC dX5_odds_33 rfl rfl ?_
    refine j_getr' (o2 := 65) (pc' := 37) hC dX5_odds_34 rfl fi_X5_55 gx0 rfl ?_
    refine j_iload_n 2 (pc' := 38) hC dX5_odds_37 rfl rfl ?_
    obtain ⟨r8, hc9, h⟩ := jb1_s h
    refine j_callVi [.int a1] (pc' := 41) hC dX5_odds_38 rfl (t_X1_setsEnoughFor _ _ hc9) gx65 vcl1 cv_X5_297 ⟨⟨Nat.le_of_ble_eq_true rfl, Nat.le_of_ble_eq_true rfl⟩, rfl, Nat.le_of_ble_eq_true rfl⟩ rfl rfl ?_
    refine j_i2l (pc' := 42) hC dX5_odds_41 rfl ?_
    refine j_lstore_n (pc' := 43) hC dX5_odds_42 rfl rfl (by decide) rfl ?_
    refine j_lconst (v := 1) (pc' := 44) hC dX5_odds_43 rfl rfl ?_
    refine j_iload_n 1 (pc' := 45) hC dX5_odds_44 rfl rfl ?_
    obtain ⟨r10, hc11, h⟩ := jb1_s h
    refine j_callSi [.int r4] (pc' := 48) hC dX5_odds_45 rfl (t_J6_bitCount_0f7a4 _ _ hc11) cs_X5_173 ⟨⟨Nat.le_of_ble_eq_true rfl, Nat.le_of_ble_eq_true rfl⟩, rfl, Nat.le_of_ble_eq_true rfl⟩ rfl rfl ?_
    refine j_lshl (pc' := 49) hC dX5_odds_48 rfl ?_
    obtain ⟨v12, ev12, h⟩ := jlet_s h
    refine j_lstore (pc' := 51) hC dX5_odds_49 rfl ev12 (by decide) rfl ?_
    refine j_iconst (v := 0) (pc' := 52) hC dX5_odds_51 rfl rfl ?_
    refine j_istore (pc' := 54) hC dX5_odds_52 rfl rfl (by decide) rfl ?_
    refine j_sub [4, 5, 3, 2, 1, 0] rfl ?_
    obtain ⟨v13, v14, v15, hm16, h⟩ := jb3_s h
    refine lp_X5_odds_L54 hC a1 r4 jfu r8.toInt64 v12 (0 : Int32) M6 v13 v14 v15 hm16 ?_
    refine j_aload_n 0 (pc' := 103) hC dX5_odds_102 rfl rfl ?_
    refine j_lload_n 3 (pc' := 104) hC dX5_odds_103 rfl rfl ?_
    obtain ⟨M17, eM17, h⟩ := jlet_s h
    refine j_putl' (pc' := 107) hC dX5_odds_104 rfl fp_X5_70 gx0 eM17 ?_
    refine j_aload_n 0 (pc' := 108) hC dX5_odds_107 rfl rfl ?_
    refine j_lload 4 (pc' := 110) hC dX5_odds_108 rfl rfl ?_
    obtain ⟨M18, eM18, h⟩ := jlet_s h
    refine j_putl' (pc' := 113) hC dX5_odds_110 rfl fp_X5_74 gx0 eM18 ?_
    refine j_iconst (v := 1) (pc' := 114) hC dX5_odds_113 rfl rfl ?_
    obtain ⟨q0, q1⟩ := jinj2 h
    subst q0
    subst q1
    exact j_iret hC dX5_odds_114
  · have h := jit_t c3 h
    refine j_iconst (v := -1) (pc' := 12) hC dX5_odds_11 rfl rfl ?_
    obtain ⟨q0, q1⟩ := jinj2 h
    subst q0
    subst q1
    exact j_iret hC dX5_odds_12
theorem lp_X5_nthOf_L4_b {Γ : jG} (hC : jOK Γ cX5_nthOf 4 RX5 (some .int) { frames := 2, cells := 0, slots := 0, locals := 40 }) {Q : State → Prop} (x0 : Int32) (rec : Int32 → Int32 → Int32 → jM → Option (Int32 × Int32)) (ih : ∀ (x1 : Int32) (x2 : Int32) (x3 : Int32) (M : jM) (e2 : Int32) (e3 : Int32), rec x1 x2 x3 M = some (e2, e3) → jJ Γ GX RX 25 [(0, .int x0), (1, .int x1), (2, .int e2), (3, .int e3)] [] M Q → jJ Γ GX RX 4 [(0, .int x0), (1, .int x1), (2, .int x2), (3, .int x3)] [] M Q) (x1 : Int32) (x2 : Int32) (x3 : Int32) (M : jM) (e2 : Int32) (e3 : Int32) (h : f_X5_nthOf_L4_b rec x1 x2 x3 M = some (e2, e3)) (hK : jJ Γ GX RX 25 [(0, .int x0), (1, .int x1), (2, .int e2), (3, .int e3)] [] M Q) : jJ Γ GX RX 4 [(0, .int x0), (1, .int x1), (2, .int x2), (3, .int x3)] [] M Q := by
  unfold f_X5_nthOf_L4_b at h
  refine j_iload_n 3 (pc' := 5) hC dX5_nthOf_4 rfl rfl ?_
  refine j_iload_n 1 (pc' := 6) hC dX5_nthOf_5 rfl rfl ?_
  refine j_icmp_ge (tgt := 25) (pc' := 9) hC dX5_nthOf_6 (by decide) rfl (fun c1 => ?_) (fun c1 => ?_)
  · have h := jit_t c1 h
    obtain ⟨q0, q1⟩ := jinj2 h
    subst q0
    subst q1
    refine j_sub [0, 1, 2, 3] rfl ?_
    exact hK
  · have h := jit_f c1 h
    refine j_iload_n 2 (pc' := 10) hC dX5_nthOf_9 rfl rfl ?_
    refine j_if_eq (tgt := 25) (pc' := 13) hC dX5_nthOf_10 (by decide) rfl (fun c2 => ?_) (fun c2 => ?_)
    · have h := jit_t c2 h
      obtain ⟨q0, q1⟩ := jinj2 h
      subst q0
      subst q1
      refine j_sub [0, 1, 2, 3] rfl ?_
      exact hK
    · have h := jit_f c2 h
      refine j_iload_n 2 (pc' := 14) hC dX5_nthOf_13 rfl rfl ?_
      refine j_iload_n 2 (pc' := 15) hC dX5_nthOf_14 rfl rfl ?_
      refine j_iconst (v := 1) (pc' := 16) hC dX5_nthOf_15 rfl rfl ?_
      refine j_isub (pc' := 17) hC dX5_nthOf_16 rfl ?_
      refine j_iand (pc' := 18) hC dX5_nthOf_17 rfl ?_
      obtain ⟨v3, ev3, h⟩ := jlet_s h
      refine j_istore_n (pc' := 19) hC dX5_nthOf_18 rfl ev3 (by decide) rfl ?_
      obtain ⟨v4, ev4, h⟩ := jlet_s h
      refine j_iinc' 3 (c := 1) (pc' := 22) hC dX5_nthOf_19 rfl rfl rfl ev4 (by decide) rfl ?_
      refine j_goto (tgt := 4) (pc' := 0) hC dX5_nthOf_22 (by decide) ?_
      refine j_sub [2, 3, 1, 0] rfl ?_
      exact ih _ _ _ _ _ _ h hK
theorem lp_X5_nthOf_L4 {Γ : jG} (hC : jOK Γ cX5_nthOf 4 RX5 (some .int) { frames := 2, cells := 0, slots := 0, locals := 40 }) {Q : State → Prop} (x0 : Int32) : ∀ (n : Nat) (x1 : Int32) (x2 : Int32) (x3 : Int32) (M : jM) (e2 : Int32) (e3 : Int32), f_X5_nthOf_L4 n x1 x2 x3 M = some (e2, e3) → jJ Γ GX RX 25 [(0, .int x0), (1, .int x1), (2, .int e2), (3, .int e3)] [] M Q → jJ Γ GX RX 4 [(0, .int x0), (1, .int x1), (2, .int x2), (3, .int x3)] [] M Q := by
  intro n
  induction n with
  | zero =>
    intro x1 x2 x3 M e2 e3 h hK
    exact jno h
  | succ n ih =>
    intro x1 x2 x3 M e2 e3 h hK
    exact lp_X5_nthOf_L4_b hC x0 (f_X5_nthOf_L4 n) ih x1 x2 x3 M e2 e3 h hK
theorem t_X5_nthOf (l : Launch) (E : jE) {a1 : Int32} {a2 : Int32} {M : jM} {r : Int32} (h : f_X5_nthOf a1 a2 M = some r) : jCi l yX5_nthOf cX5_nthOf 4 (some .int) 2 40 E RX GX (fun _ _ => [.int a1, .int a2]) M r M := by
  refine jCi_of (own := RX5) (by decide) rfl (fun _ _ => Nat.le_of_ble_eq_true rfl) ?_
  intro Γ hC
  show jJ Γ GX RX 0 [(0, .int a1), (1, .int a2)] [] M (jQi Γ RX GX r M)
  unfold f_X5_nthOf at h
  refine j_iload_n 0 (pc' := 1) hC dX5_nthOf_0 rfl rfl ?_
  refine j_istore_n (pc' := 2) hC dX5_nthOf_1 rfl rfl (by decide) rfl ?_
  refine j_iconst (v := 0) (pc' := 3) hC dX5_nthOf_2 rfl rfl ?_
  refine j_istore_n (pc' := 4) hC dX5_nthOf_3 rfl rfl (by decide) rfl ?_
  refine j_sub [2, 3, 1, 0] rfl ?_
  obtain ⟨v1, v2, hm3, h⟩ := jb2_s h
  refine lp_X5_nthOf_L4 hC a1 jfu a2 a1 (0 : Int32) M v1 v2 hm3 ?_
  refine j_iload_n 2 (pc' := 26) hC dX5_nthOf_25 rfl rfl ?_
  obtain ⟨r4, hc5, h⟩ := jb1_s h
  refine j_callSi [.int v1] (pc' := 29) hC dX5_nthOf_26 rfl (t_X5_firstOf _ _ hc5) cs_X5_222 ⟨⟨Nat.le_of_ble_eq_true rfl, Nat.le_of_ble_eq_true rfl⟩, rfl, Nat.le_of_ble_eq_true rfl⟩ rfl rfl ?_
  have q8 := jinj1 h
  subst q8
  exact j_iret hC dX5_nthOf_29
theorem t_X5_liveByLot (l : Launch) (E : jE) {a1 : Int32} {M : jM} {M' : jM} (h : f_X5_liveByLot a1 M = some M') : jCv l yX5_liveByLot cX5_liveByLot 7 (none) 6 134 E RX GX (fun a _ => [.ref (a 0), .int a1]) M M' := by
  refine jCv_of (own := RX5) (by decide) rfl (fun _ _ => Nat.le_of_ble_eq_true rfl) ?_
  intro Γ hC
  show jJ Γ GX RX 0 [(0, .ref (jad Γ 0)), (1, .int a1)] [] M (jQv Γ RX GX M')
  unfold f_X5_liveByLot at h
  refine j_aload_n 0 (pc' := 1) hC dX5_liveByLot_0 rfl rfl ?_
  refine j_getr' (o2 := 39) (pc' := 4) hC dX5_liveByLot_1 rfl fi_X5_40 gx0 rfl ?_
  obtain ⟨r1, hc2, h⟩ := jb1_s h
  refine j_callVi [] (pc' := 7) hC dX5_liveByLot_4 rfl (t_X0_shelfBits _ _ hc2) gx39 vcl0 cv_X5_209 ⟨⟨Nat.le_of_ble_eq_true rfl, Nat.le_of_ble_eq_true rfl⟩, rfl, Nat.le_of_ble_eq_true rfl⟩ rfl rfl ?_
  refine j_istore_n (pc' := 8) hC dX5_liveByLot_7 rfl rfl (by decide) rfl ?_
  refine j_iload_n 0 (pc' := 9) hC dX5_liveByLot_8 rfl rfl ?_
  obtain ⟨r3, hc4, h⟩ := jb1_s h
  refine j_callSi [.int r1] (pc' := 12) hC dX5_liveByLot_9 rfl (t_J6_bitCount_0f7a4 _ _ hc4) cs_X5_173 ⟨⟨Nat.le_of_ble_eq_true rfl, Nat.le_of_ble_eq_true rfl⟩, rfl, Nat.le_of_ble_eq_true rfl⟩ rfl rfl ?_
  refine j_istore_n (pc' := 13) hC dX5_liveByLot_12 rfl rfl (by decide) rfl ?_
  refine j_iload_n 0 (pc' := 14) hC dX5_liveByLot_13 rfl rfl ?_
  refine j_if_ne (tgt := 30) (pc' := 17) hC dX5_liveByLot_14 (by decide) rfl (fun c5 => ?_) (fun c5 => ?_)
  · have h := jit_f c5 h
    refine j_iload_n 1 (pc' := 31) hC dX5_liveByLot_30 rfl rfl ?_
    refine j_iload_n 3 (pc' := 32) hC dX5_liveByLot_31 rfl rfl ?_
    refine j_iload_n 0 (pc' := 33) hC dX5_liveByLot_32 rfl rfl ?_
    obtain ⟨g6, h⟩ := jg_s h
    refine j_irem (pc' := 34) hC dX5_liveByLot_33 rfl (of_decide_eq_true g6) ?_
    obtain ⟨r7, hc8, h⟩ := jb1_s h
    refine j_callSi [.int r1, .int (a1 - a1 / r3 * r3)] (pc' := 37) hC dX5_liveByLot_34 rfl (t_X5_nthOf _ _ hc8) cs_X5_337 ⟨⟨Nat.le_of_ble_eq_true rfl, Nat.le_of_ble_eq_true rfl⟩, rfl, Nat.le_of_ble_eq_true rfl⟩ rfl rfl ?_
    refine j_istore (pc' := 39) hC dX5_liveByLot_37 rfl rfl (by decide) rfl ?_
    refine j_aload_n 3 (pc' := 40) hC dX5_liveByLot_39 rfl rfl ?_
    refine j_getr' (o2 := 39) (pc' := 43) hC dX5_liveByLot_40 rfl fi_X5_40 gx0 rfl ?_
    refine j_iload 0 (pc' := 45) hC dX5_liveByLot_43 rfl rfl ?_
    obtain ⟨r9, hc10, h⟩ := jb1_s h
    refine j_callVi [.int r7] (pc' := 48) hC dX5_liveByLot_45 rfl (t_X0_deedsFor _ _ hc10) gx39 vcl0 cv_X5_219 ⟨⟨Nat.le_of_ble_eq_true rfl, Nat.le_of_ble_eq_true rfl⟩, rfl, Nat.le_of_ble_eq_true rfl⟩ rfl rfl ?_
    refine j_istore (pc' := 50) hC dX5_liveByLot_48 rfl rfl (by decide) rfl ?_
    refine j_iload 0 (pc' := 52) hC dX5_liveByLot_50 rfl rfl ?_
    obtain ⟨r11, hc12, h⟩ := jb1_s h
    refine j_callSi [.int r9] (pc' := 55) hC dX5_liveByLot_52 rfl (t_J6_bitCount_0f7a4 _ _ hc12) cs_X5_173 ⟨⟨Nat.le_of_ble_eq_true rfl, Nat.le_of_ble_eq_true rfl⟩, rfl, Nat.le_of_ble_eq_true rfl⟩ rfl rfl ?_
    refine j_iconst (v := 1) (pc' := 56) hC dX5_liveByLot_55 rfl rfl ?_
    refine j_iadd (pc' := 57) hC dX5_liveByLot_56 rfl ?_
    obtain ⟨v13, ev13, h⟩ := jlet_s h
    refine j_istore (pc' := 59) hC dX5_liveByLot_57 rfl ev13 (by decide) rfl ?_
    refine j_aload_n 5 (pc' := 60) hC dX5_liveByLot_59 rfl rfl ?_
    refine j_getr' (o2 := 39) (pc' := 63) hC dX5_liveByLot_60 rfl fi_X5_40 gx0 rfl ?_
    refine j_iconst (v := 1) (pc' := 64) hC dX5_liveByLot_63 rfl rfl ?_
    refine j_iload 2 (pc' := 66) hC dX5_liveByLot_64 rfl rfl ?_
    refine j_iload 1 (pc' := 68) hC dX5_liveByLot_66 rfl rfl ?_
    refine j_iload_n 6 (pc' := 69) hC dX5_liveByLot_68 rfl rfl ?_
    refine j_bipush (v := 64) (pc' := 71) hC dX5_liveByLot_69 rfl rfl ?_
    refine j_idiv (pc' := 72) hC dX5_liveByLot_71 rfl (by decide) ?_
    refine j_iload 0 (pc' := 74) hC dX5_liveByLot_72 rfl rfl ?_
    obtain ⟨g14, h⟩ := jg_s h
    refine j_irem (pc' := 75) hC dX5_liveByLot_74 rfl (of_decide_eq_true g14) ?_
    obtain ⟨r15, hc16, h⟩ := jb1_s h
    refine j_callSi [.int r9, .int ((a1 / (64 : Int32)) - (a1 / (64 : Int32)) / v13 * v13)] (pc' := 78) hC dX5_liveByLot_75 rfl (t_X5_nthOf _ _ hc16) cs_X5_337 ⟨⟨Nat.le_of_ble_eq_true rfl, Nat.le_of_ble_eq_true rfl⟩, rfl, Nat.le_of_ble_eq_true rfl⟩ rfl rfl ?_
    obtain ⟨M17, hc18, h⟩ := jb1_s h
    refine j_callVv [.int (1 : Int32), .int r7, .int r15] (pc' := 81) hC dX5_liveByLot_78 rfl (t_X0_take _ _ hc18) gx39 vcl0 cv_X5_197 ⟨⟨Nat.le_of_ble_eq_true rfl, Nat.le_of_ble_eq_true rfl⟩, rfl, Nat.le_of_ble_eq_true rfl⟩ rfl rfl ?_
    have q8 := jinj1 h
    subst q8
    exact j_vret hC dX5_liveByLot_81
  · have h := jit_t c5 h
    refine j_aload_n 2 (pc' := 18) hC dX5_liveByLot_17 rfl rfl ?_
    refine j_getr' (o2 := 39) (pc' := 21) hC dX5_liveByLot_18 rfl fi_X5_40 gx0 rfl ?_
    refine j_iconst (v := 0) (pc' := 22) hC dX5_liveByLot_21 rfl rfl ?_
    refine j_bipush (v := -9) (pc' := 24) hC dX5_liveByLot_22 rfl rfl ?_
    refine j_bipush (v := -9) (pc' := 26) hC dX5_liveByLot_24 rfl rfl ?_
    obtain ⟨M19, hc20, h⟩ := jb1_s h
    refine j_callVv [.int (0 : Int32), .int (-9 : Int32), .int (-9 : Int32)] (pc' := 29) hC dX5_liveByLot_26 rfl (t_X0_take _ _ hc20) gx39 vcl0 cv_X5_197 ⟨⟨Nat.le_of_ble_eq_true rfl, Nat.le_of_ble_eq_true rfl⟩, rfl, Nat.le_of_ble_eq_true rfl⟩ rfl rfl ?_
    have q8 := jinj1 h
    subst q8
    exact j_vret hC dX5_liveByLot_29
theorem lp_X5_lots_L56_b {Γ : jG} (hC : jOK Γ cX5_lots 7 RX5 (some .int) { frames := 7, cells := 0, slots := 0, locals := 160 }) {Q : State → Prop} (x2 : Int32) (x3 : Int32) (rec : Int32 → Int64 → Int32 → jM → Option (Int64 × Int32 × jM)) (ih : ∀ (x1 : Int32) (x4 : Int64) (x6 : Int32) (M : jM) (e4 : Int64) (e6 : Int32) (Me : jM), rec x1 x4 x6 M = some (e4, e6, Me) → jJ Γ GX RX 97 [(0, .ref (jad Γ 0)), (1, .int x1), (2, .int x2), (3, .int x3), (4, .long e4), (6, .int e6)] [] Me Q → jJ Γ GX RX 56 [(0, .ref (jad Γ 0)), (1, .int x1), (2, .int x2), (3, .int x3), (4, .long x4), (6, .int x6)] [] M Q) (x1 : Int32) (x4 : Int64) (x6 : Int32) (M : jM) (e4 : Int64) (e6 : Int32) (Me : jM) (h : f_X5_lots_L56_b rec x1 x4 x6 M = some (e4, e6, Me)) (hK : jJ Γ GX RX 97 [(0, .ref (jad Γ 0)), (1, .int x1), (2, .int x2), (3, .int x3), (4, .long e4), (6, .int e6)] [] Me Q) : jJ Γ GX RX 56 [(0, .ref (jad Γ 0)), (1, .int x1), (2, .int x2), (3, .int x3), (4, .long x4), (6, .int x6)] [] M Q := by
  unfold f_X5_lots_L56_b at h
  refine j_iload 5 (pc' := 58) hC dX5_lots_56 rfl rfl ?_
  refine j_iload_n 1 (pc' := 59) hC dX5_lots_58 rfl rfl ?_
  refine j_icmp_ge (tgt := 97) (pc' := 62) hC dX5_lots_59 (by decide) rfl (fun c1 => ?_) (fun c1 => ?_)
  · have h := jit_t c1 h
    obtain ⟨q0, q1, q2⟩ := jinj3 h
    subst q0
    subst q1
    subst q2
    refine j_sub [0, 1, 2, 3, 4, 5] rfl ?_
    exact hK
  · have h := jit_f c1 h
    refine j_aload_n 0 (pc' := 63) hC dX5_lots_62 rfl rfl ?_
    refine j_getr' (o2 := 39) (pc' := 66) hC dX5_lots_63 rfl fi_X5_40 gx0 rfl ?_
    obtain ⟨r2, hc3, h⟩ := jb1_s h
    refine j_callVi [] (pc' := 69) hC dX5_lots_66 rfl (t_X0_isFull _ _ hc3) gx39 vcl0 cv_X5_193 ⟨⟨Nat.le_of_ble_eq_true rfl, Nat.le_of_ble_eq_true rfl⟩, rfl, Nat.le_of_ble_eq_true rfl⟩ rfl rfl ?_
    refine j_if_ne (tgt := 97) (pc' := 72) hC dX5_lots_69 (by decide) rfl (fun c4 => ?_) (fun c4 => ?_)
    · have h := jit_f c4 h
      obtain ⟨q0, q1, q2⟩ := jinj3 h
      subst q0
      subst q1
      subst q2
      refine j_sub [0, 1, 2, 3, 4, 5] rfl ?_
      exact hK
    · have h := jit_t c4 h
      refine j_lload 4 (pc' := 74) hC dX5_lots_72 rfl rfl ?_
      refine j_ldc2 (pc' := 77) hC dX5_lots_74 rfl ck_X5_303 ?_
      refine j_lmul (pc' := 78) hC dX5_lots_77 rfl ?_
      refine j_ldc2 (pc' := 81) hC dX5_lots_78 rfl ck_X5_305 ?_
      refine j_lrem (pc' := 82) hC dX5_lots_81 rfl (by decide) ?_
      obtain ⟨v5, ev5, h⟩ := jlet_s h
      refine j_lstore (pc' := 84) hC dX5_lots_82 rfl ev5 (by decide) rfl ?_
      refine j_aload_n 1 (pc' := 85) hC dX5_lots_84 rfl rfl ?_
      refine j_lload 0 (pc' := 87) hC dX5_lots_85 rfl rfl ?_
      refine j_l2i (pc' := 88) hC dX5_lots_87 rfl ?_
      obtain ⟨M6, hc7, h⟩ := jb1_s h
      refine j_callVv [.int v5.toInt32] (pc' := 91) hC dX5_lots_88 rfl (t_X5_liveByLot _ _ hc7) gx0 vcl5 cv_X5_307 ⟨⟨Nat.le_of_ble_eq_true rfl, Nat.le_of_ble_eq_true rfl⟩, rfl, Nat.le_of_ble_eq_true rfl⟩ rfl rfl ?_
      obtain ⟨v8, ev8, h⟩ := jlet_s h
      refine j_iinc' 5 (c := 1) (pc' := 94) hC dX5_lots_91 rfl rfl rfl ev8 (by decide) rfl ?_
      refine j_goto (tgt := 56) (pc' := 0) hC dX5_lots_94 (by decide) ?_
      refine j_sub [2, 3, 4, 5, 1, 0] rfl ?_
      exact ih _ _ _ _ _ _ _ h hK
theorem lp_X5_lots_L56 {Γ : jG} (hC : jOK Γ cX5_lots 7 RX5 (some .int) { frames := 7, cells := 0, slots := 0, locals := 160 }) {Q : State → Prop} (x2 : Int32) (x3 : Int32) : ∀ (n : Nat) (x1 : Int32) (x4 : Int64) (x6 : Int32) (M : jM) (e4 : Int64) (e6 : Int32) (Me : jM), f_X5_lots_L56 n x1 x4 x6 M = some (e4, e6, Me) → jJ Γ GX RX 97 [(0, .ref (jad Γ 0)), (1, .int x1), (2, .int x2), (3, .int x3), (4, .long e4), (6, .int e6)] [] Me Q → jJ Γ GX RX 56 [(0, .ref (jad Γ 0)), (1, .int x1), (2, .int x2), (3, .int x3), (4, .long x4), (6, .int x6)] [] M Q := by
  intro n
  induction n with
  | zero =>
    intro x1 x4 x6 M e4 e6 Me h hK
    exact jno h
  | succ n ih =>
    intro x1 x4 x6 M e4 e6 Me h hK
    exact lp_X5_lots_L56_b hC x2 x3 (f_X5_lots_L56 n) ih x1 x4 x6 M e4 e6 Me h hK
theorem t_X5_lots (l : Launch) (E : jE) {a1 : Int32} {a2 : Int32} {M : jM} {r : Int32} {M' : jM} (h : f_X5_lots a1 a2 M = some (r, M')) : jCi l yX5_lots cX5_lots 7 (some .int) 7 160 E RX GX (fun a _ => [.ref (a 0), .int a1, .int a2]) M r M' := by
  refine jCi_of (own := RX5) (by decide) rfl (fun _ _ => Nat.le_of_ble_eq_true rfl) ?_
  intro Γ hC
  show jJ Γ GX RX 0 [(0, .ref (jad Γ 0)), (1, .int a1), (2, .int a2)] [] M (jQi Γ RX GX r M')
  unfold f_X5_lots at h
  refine j_iload_n 1 (pc' := 1) hC dX5_lots_0 rfl rfl ?_
  refine j_iconst (v := 1) (pc' := 2) hC dX5_lots_1 rfl rfl ?_
  refine j_icmp_lt (tgt := 23) (pc' := 5) hC dX5_lots_2 (by decide) rfl (fun c1 => ?_) (fun c1 => ?_)
  · have h := jit_t c1 h
    refine j_iconst (v := -1) (pc' := 24) hC dX5_lots_23 rfl rfl ?_
    obtain ⟨q0, q1⟩ := jinj2 h
    subst q0
    subst q1
    exact j_iret hC dX5_lots_24
  · have h := jit_f c1 h
    refine j_iload_n 1 (pc' := 6) hC dX5_lots_5 rfl rfl ?_
    refine j_bipush (v := 20) (pc' := 8) hC dX5_lots_6 rfl rfl ?_
    refine j_icmp_gt (tgt := 23) (pc' := 11) hC dX5_lots_8 (by decide) rfl (fun c2 => ?_) (fun c2 => ?_)
    · have h := jit_t c2 h
      refine j_iconst (v := -1) (pc' := 24) hC dX5_lots_23 rfl rfl ?_
      obtain ⟨q0, q1⟩ := jinj2 h
      subst q0
      subst q1
      exact j_iret hC dX5_lots_24
    · have h := jit_f c2 h
      refine j_iload_n 2 (pc' := 12) hC dX5_lots_11 rfl rfl ?_
      refine j_iconst (v := 1) (pc' := 13) hC dX5_lots_12 rfl rfl ?_
      refine j_icmp_lt (tgt := 23) (pc' := 16) hC dX5_lots_13 (by decide) rfl (fun c3 => ?_) (fun c3 => ?_)
      · have h := jit_t c3 h
        refine j_iconst (v := -1) (pc' := 24) hC dX5_lots_23 rfl rfl ?_
        obtain ⟨q0, q1⟩ := jinj2 h
        subst q0
        subst q1
        exact j_iret hC dX5_lots_24
      · have h := jit_f c3 h
        refine j_iload_n 2 (pc' := 17) hC dX5_lots_16 rfl rfl ?_
        refine j_ldcw (pc' := 20) hC dX5_lots_17 rfl ck_X5_302 ?_
        refine j_icmp_le (tgt := 25) (pc' := 23) hC dX5_lots_20 (by decide) rfl (fun c4 => ?_) (fun c4 => ?_)
        · have h := jit_t c4 h
          refine j_aload_n 0 (pc' := 26) hC dX5_lots_25 rfl rfl ?_
          refine j_getr' (o2 := 29) (pc' := 29) hC dX5_lots_26 rfl fi_X5_31 gx0 rfl ?_
          refine j_geti' (pc' := 32) hC dX5_lots_29 rfl fi_X5_140 gx29 ?_
          refine j_if_ne (tgt := 38) (pc' := 35) hC dX5_lots_32 (by decide) rfl (fun c5 => ?_) (fun c5 => ?_)
          · have h := jit_f c5 h
            refine j_aload_n 0 (pc' := 39) hC dX5_lots_38 rfl rfl ?_
            refine j_getr' (o2 := 39) (pc' := 42) hC dX5_lots_39 rfl fi_X5_40 gx0 rfl ?_
            refine j_geti' (pc' := 45) hC dX5_lots_42 rfl fi_X5_178 gx39 ?_
            obtain ⟨r6, hc7, h⟩ := jb1_s h
            refine j_callSi [.int (gi M 39 10)] (pc' := 48) hC dX5_lots_45 rfl (t_J6_bitCount_0f7a4 _ _ hc7) cs_X5_173 ⟨⟨Nat.le_of_ble_eq_true rfl, Nat.le_of_ble_eq_true rfl⟩, rfl, Nat.le_of_ble_eq_true rfl⟩ rfl rfl ?_
            refine j_istore_n (pc' := 49) hC dX5_lots_48 rfl rfl (by decide) rfl ?_
            refine j_iload_n 3 (pc' := 50) hC dX5_lots_49 rfl rfl ?_
            refine j_i2l (pc' := 51) hC dX5_lots_50 rfl ?_
            refine j_lstore (pc' := 53) hC dX5_lots_51 rfl rfl (by decide) rfl ?_
            refine j_iconst (v := 0) (pc' := 54) hC dX5_lots_53 rfl rfl ?_
            refine j_istore (pc' := 56) hC dX5_lots_54 rfl rfl (by decide) rfl ?_
            refine j_sub [3, 4, 5, 2, 1, 0] rfl ?_
            obtain ⟨v8, v9, M10, hm11, h⟩ := jb3_s h
            refine lp_X5_lots_L56 hC a2 r6 jfu a1 a2.toInt64 (0 : Int32) M v8 v9 M10 hm11 ?_
            refine j_aload_n 0 (pc' := 98) hC dX5_lots_97 rfl rfl ?_
            refine j_getr' (o2 := 39) (pc' := 101) hC dX5_lots_98 rfl fi_X5_40 gx0 rfl ?_
            refine j_geti' (pc' := 104) hC dX5_lots_101 rfl fi_X5_178 gx39 ?_
            obtain ⟨r12, hc13, h⟩ := jb1_s h
            refine j_callSi [.int (gi M10 39 10)] (pc' := 107) hC dX5_lots_104 rfl (t_J6_bitCount_0f7a4 _ _ hc13) cs_X5_173 ⟨⟨Nat.le_of_ble_eq_true rfl, Nat.le_of_ble_eq_true rfl⟩, rfl, Nat.le_of_ble_eq_true rfl⟩ rfl rfl ?_
            refine j_iload_n 3 (pc' := 108) hC dX5_lots_107 rfl rfl ?_
            refine j_isub (pc' := 109) hC dX5_lots_108 rfl ?_
            obtain ⟨q0, q1⟩ := jinj2 h
            subst q0
            subst q1
            exact j_iret hC dX5_lots_109
          · have h := jit_t c5 h
            refine j_bipush (v := -4) (pc' := 37) hC dX5_lots_35 rfl rfl ?_
            obtain ⟨q0, q1⟩ := jinj2 h
            subst q0
            subst q1
            exact j_iret hC dX5_lots_37
        · have h := jit_f c4 h
          refine j_iconst (v := -1) (pc' := 24) hC dX5_lots_23 rfl rfl ?_
          obtain ⟨q0, q1⟩ := jinj2 h
          subst q0
          subst q1
          exact j_iret hC dX5_lots_24
