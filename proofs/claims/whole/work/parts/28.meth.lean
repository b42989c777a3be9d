theorem lp_X6_mean_L44_b {Γ : jG} (hC : jOK Γ cX6_mean 5 RX6 (some .int) { frames := 2, cells := 0, slots := 0, locals := 45 }) {Q : State → Prop} (rec : Int32 → Int64 → Int32 → jM → Option (Int64 × Int32)) (ih : ∀ (x1 : Int32) (x2 : Int64) (x4 : Int32) (M : jM) (e2 : Int64) (e4 : Int32), rec x1 x2 x4 M = some (e2, e4) → jJ Γ GM RM 77 [(0, .ref (jad Γ 0)), (1, .int x1), (2, .long e2), (4, .int e4)] [] M Q → jJ Γ GM RM 44 [(0, .ref (jad Γ 0)), (1, .int x1), (2, .long x2), (4, .int x4)] [] M Q) (x1 : Int32) (x2 : Int64) (x4 : Int32) (M : jM) (e2 : Int64) (e4 : Int32) (h : f_X6_mean_L44_b rec x1 x2 x4 M = some (e2, e4)) (hK : jJ Γ GM RM 77 [(0, .ref (jad Γ 0)), (1, .int x1), (2, .long e2), (4, .int e4)] [] M Q) : jJ Γ GM RM 44 [(0, .ref (jad Γ 0)), (1, .int x1), (2, .long x2), (4, .int x4)] [] M Q := by
  unfold f_X6_mean_L44_b at h
  refine j_iload 3 (pc' := 46) hC dX6_mean_44 rfl rfl ?_
  refine j_aload_n 0 (pc' := 47) hC dX6_mean_46 rfl rfl ?_
  refine j_getr' (o2 := 1) (pc' := 50) hC dX6_mean_47 rfl fi_X6_7 gm0 rfl ?_
  refine j_iload_n 1 (pc' := 51) hC dX6_mean_50 rfl rfl ?_
  obtain ⟨g1, h⟩ := jg_s h
  refine j_iald (pc' := 52) hC dX6_mean_51 rfl gm1 g1 ?_
  refine j_icmp_ge (tgt := 77) (pc' := 55) hC dX6_mean_52 (by decide) rfl (fun c2 => ?_) (fun c2 => ?_)
  · have h := jit_t c2 h
    obtain ⟨q0, q1⟩ := jinj2 h
    subst q0
    subst q1
    refine j_sub [0, 1, 2, 3] rfl ?_
    exact hK
  · have h := jit_f c2 h
    refine j_lload_n 2 (pc' := 56) hC dX6_mean_55 rfl rfl ?_
    refine j_aload_n 0 (pc' := 57) hC dX6_mean_56 rfl rfl ?_
    refine j_getr' (o2 := 2) (pc' := 60) hC dX6_mean_57 rfl fi_X6_13 gm0 rfl ?_
    refine j_bipush (v := 40) (pc' := 62) hC dX6_mean_60 rfl rfl ?_
    refine j_iload_n 1 (pc' := 63) hC dX6_mean_62 rfl rfl ?_
    refine j_imul (pc' := 64) hC dX6_mean_63 rfl ?_
    refine j_iload 3 (pc' := 66) hC dX6_mean_64 rfl rfl ?_
    refine j_iadd (pc' := 67) hC dX6_mean_66 rfl ?_
    obtain ⟨g3, h⟩ := jg_s h
    refine j_iald (pc' := 68) hC dX6_mean_67 rfl gm2 g3 ?_
    refine j_i2l (pc' := 69) hC dX6_mean_68 rfl ?_
    refine j_ladd (pc' := 70) hC dX6_mean_69 rfl ?_
    obtain ⟨v4, ev4, h⟩ := jlet_s h
    refine j_lstore_n (pc' := 71) hC dX6_mean_70 rfl ev4 (by decide) rfl ?_
    obtain ⟨v5, ev5, h⟩ := jlet_s h
    refine j_iinc' 3 (c := 1) (pc' := 74) hC dX6_mean_71 rfl rfl rfl ev5 (by decide) rfl ?_
    refine j_goto (tgt := 44) (pc' := 0) hC dX6_mean_74 (by decide) ?_
    refine j_sub [2, 3, 1, 0] rfl ?_
    exact ih _ _ _ _ _ _ h hK
theorem lp_X6_mean_L44 {Γ : jG} (hC : jOK Γ cX6_mean 5 RX6 (some .int) { frames := 2, cells := 0, slots := 0, locals := 45 }) {Q : State → Prop} : ∀ (n : Nat) (x1 : Int32) (x2 : Int64) (x4 : Int32) (M : jM) (e2 : Int64) (e4 : Int32), f_X6_mean_L44 n x1 x2 x4 M = some (e2, e4) → jJ Γ GM RM 77 [(0, .ref (jad Γ 0)), (1, .int x1), (2, .long e2), (4, .int e4)] [] M Q → jJ Γ GM RM 44 [(0, .ref (jad Γ 0)), (1, .int x1), (2, .long x2), (4, .int x4)] [] M Q := by
  intro n
  induction n with
  | zero =>
    intro x1 x2 x4 M e2 e4 h hK
    exact jno h
  | succ n ih =>
    intro x1 x2 x4 M e2 e4 h hK
    exact lp_X6_mean_L44_b hC (f_X6_mean_L44 n) ih x1 x2 x4 M e2 e4 h hK
theorem t_X6_mean (l : Launch) (E : jE) {a1 : Int32} {M : jM} {r : Int32} {M' : jM} (h : f_X6_mean a1 M = some (r, M')) : jCi l yX6_mean cX6_mean 5 (some .int) 2 45 E RM GM (fun a _ => [.ref (a 0), .int a1]) M r M' := by
  refine jCi_of (own := RX6) (by decide) rfl (fun _ _ => Nat.le_of_ble_eq_true rfl) ?_
  intro Γ hC
  show jJ Γ GM RM 0 [(0, .ref (jad Γ 0)), (1, .int a1)] [] M (jQi Γ RM GM r M')
  unfold f_X6_mean at h
  refine j_iload_n 1 (pc' := 1) hC dX6_mean_0 rfl rfl ?_
  obtain ⟨r1, hc2, h⟩ := jb1_s h
  refine j_callSi [.int a1] (pc' := 4) hC dX6_mean_1 rfl (t_X6_isRow _ _ hc2) cs_X6_99 ⟨⟨Nat.le_of_ble_eq_true rfl, Nat.le_of_ble_eq_true rfl⟩, rfl, Nat.le_of_ble_eq_true rfl⟩ rfl rfl ?_
  refine j_if_ne (tgt := 9) (pc' := 7) hC dX6_mean_4 (by decide) rfl (fun c3 => ?_) (fun c3 => ?_)
  · have h := jit_f c3 h
    refine j_aload_n 0 (pc' := 10) hC dX6_mean_9 rfl rfl ?_
    refine j_getr' (o2 := 1) (pc' := 13) hC dX6_mean_10 rfl fi_X6_7 gm0 rfl ?_
    refine j_iload_n 1 (pc' := 14) hC dX6_mean_13 rfl rfl ?_
    obtain ⟨g4, h⟩ := jg_s h
    refine j_iald (pc' := 15) hC dX6_mean_14 rfl gm1 g4 ?_
    refine j_if_ge (tgt := 24) (pc' := 18) hC dX6_mean_15 (by decide) rfl (fun c5 => ?_) (fun c5 => ?_)
    · have h := jit_t c5 h
      refine j_aload_n 0 (pc' := 25) hC dX6_mean_24 rfl rfl ?_
      refine j_getr' (o2 := 1) (pc' := 28) hC dX6_mean_25 rfl fi_X6_7 gm0 rfl ?_
      refine j_iload_n 1 (pc' := 29) hC dX6_mean_28 rfl rfl ?_
      obtain ⟨g6, h⟩ := jg_s h
      refine j_iald (pc' := 30) hC dX6_mean_29 rfl gm1 g6 ?_
      refine j_if_ne (tgt := 39) (pc' := 33) hC dX6_mean_30 (by decide) rfl (fun c7 => ?_) (fun c7 => ?_)
      · have h := jit_f c7 h
        refine j_lconst (v := 0) (pc' := 40) hC dX6_mean_39 rfl rfl ?_
        refine j_lstore_n (pc' := 41) hC dX6_mean_40 rfl rfl (by decide) rfl ?_
        refine j_iconst (v := 0) (pc' := 42) hC dX6_mean_41 rfl rfl ?_
        refine j_istore (pc' := 44) hC dX6_mean_42 rfl rfl (by decide) rfl ?_
        refine j_sub [2, 3, 1, 0] rfl ?_
        obtain ⟨v8, v9, hm10, h⟩ := jb2_s h
        refine lp_X6_mean_L44 hC  jfu a1 (0 : Int64) (0 : Int32) M v8 v9 hm10 ?_
        refine j_aload_n 0 (pc' := 78) hC dX6_mean_77 rfl rfl ?_
        refine j_iconst (v := 1) (pc' := 79) hC dX6_mean_78 rfl rfl ?_
        refine j_lload_n 2 (pc' := 80) hC dX6_mean_79 rfl rfl ?_
        refine j_aload_n 0 (pc' := 81) hC dX6_mean_80 rfl rfl ?_
        refine j_getr' (o2 := 1) (pc' := 84) hC dX6_mean_81 rfl fi_X6_7 gm0 rfl ?_
        refine j_iload_n 1 (pc' := 85) hC dX6_mean_84 rfl rfl ?_
        obtain ⟨g11, h⟩ := jg_s h
        refine j_iald (pc' := 86) hC dX6_mean_85 rfl gm1 g11 ?_
        refine j_i2l (pc' := 87) hC dX6_mean_86 rfl ?_
        obtain ⟨g12, h⟩ := jg_s h
        refine j_ldiv (pc' := 88) hC dX6_mean_87 rfl (of_decide_eq_true g12) ?_
        refine j_l2i (pc' := 89) hC dX6_mean_88 rfl ?_
        obtain ⟨r13, M14, hc15, h⟩ := jb2_s h
        refine j_callVi [.int (1 : Int32), .int (v8 / (gi M 1 a1.toNatClampNeg).toInt64).toInt32] (pc' := 92) hC dX6_mean_89 rfl (t_X6_answer _ _ hc15) gm0 vcl6 cv_X6_111 ⟨⟨Nat.le_of_ble_eq_true rfl, Nat.le_of_ble_eq_true rfl⟩, rfl, Nat.le_of_ble_eq_true rfl⟩ rfl rfl ?_
        obtain ⟨q0, q1⟩ := jinj2 h
        subst q0
        subst q1
        exact j_iret hC dX6_mean_92
      · have h := jit_t c7 h
        refine j_aload_n 0 (pc' := 34) hC dX6_mean_33 rfl rfl ?_
        refine j_iconst (v := 4) (pc' := 35) hC dX6_mean_34 rfl rfl ?_
        obtain ⟨r16, M17, hc18, h⟩ := jb2_s h
        refine j_callVi [.int (4 : Int32)] (pc' := 38) hC dX6_mean_35 rfl (t_X6_find _ _ hc18) gm0 vcl6 cv_X6_103 ⟨⟨Nat.le_of_ble_eq_true rfl, Nat.le_of_ble_eq_true rfl⟩, rfl, Nat.le_of_ble_eq_true rfl⟩ rfl rfl ?_
        obtain ⟨q0, q1⟩ := jinj2 h
        subst q0
        subst q1
        exact j_iret hC dX6_mean_38
    · have h := jit_f c5 h
      refine j_aload_n 0 (pc' := 19) hC dX6_mean_18 rfl rfl ?_
      refine j_iconst (v := 1) (pc' := 20) hC dX6_mean_19 rfl rfl ?_
      obtain ⟨r19, M20, hc21, h⟩ := jb2_s h
      refine j_callVi [.int (1 : Int32)] (pc' := 23) hC dX6_mean_20 rfl (t_X6_find _ _ hc21) gm0 vcl6 cv_X6_103 ⟨⟨Nat.le_of_ble_eq_true rfl, Nat.le_of_ble_eq_true rfl⟩, rfl, Nat.le_of_ble_eq_true rfl⟩ rfl rfl ?_
      obtain ⟨q0, q1⟩ := jinj2 h
      subst q0
      subst q1
      exact j_iret hC dX6_mean_23
  · have h := jit_t c3 h
    refine j_iconst (v := -1) (pc' := 8) hC dX6_mean_7 rfl rfl ?_
    obtain ⟨q0, q1⟩ := jinj2 h
    subst q0
    subst q1
    exact j_iret hC dX6_mean_8
theorem t_X6_isText (l : Launch) (E : jE) {a1 : Int32} {M : jM} {r : Int32} (h : f_X6_isText a1 M = some r) : jCi l yX6_isText cX6_isText 1 (some .boolean) 1 25 E RM GM (fun _ _ => [.int a1]) M r M := by
  refine jCi_of (own := RX6) (by decide) rfl (fun _ _ => Nat.le_of_ble_eq_true rfl) ?_
  intro Γ hC
  show jJ Γ GM RM 0 [(0, .int a1)] [] M (jQi Γ RM GM r M)
  unfold f_X6_isText at h
  refine j_iload_n 0 (pc' := 1) hC dX6_isText_0 rfl rfl ?_
  refine j_i2l (pc' := 2) hC dX6_isText_1 rfl ?_
  refine j_lconst (v := 0) (pc' := 3) hC dX6_isText_2 rfl rfl ?_
  refine j_ldc2 (pc' := 6) hC dX6_isText_3 rfl ck_X6_97 ?_
  obtain ⟨r1, hc2, h⟩ := jb1_s h
  refine j_callSi [.long a1.toInt64, .long (0 : Int64), .long (3 : Int64)] (pc' := 9) hC dX6_isText_6 rfl (t_X6_in _ _ hc2) cs_X6_93 ⟨⟨Nat.le_of_ble_eq_true rfl, Nat.le_of_ble_eq_true rfl⟩, rfl, Nat.le_of_ble_eq_true rfl⟩ rfl rfl ?_
  obtain ⟨g3, h⟩ := jg_s h
  have q8 := jinj1 h
  subst q8
  exact j_zret hC dX6_isText_9 (of_decide_eq_true g3)
theorem lp_X6_text_L34_b {Γ : jG} (hC : jOK Γ cX6_text 4 RX6 (some .int) { frames := 2, cells := 0, slots := 0, locals := 45 }) {Q : State → Prop} (x2 : Int32) (rec : Int32 → Int32 → jM → Option (Int32 × jM)) (ih : ∀ (x1 : Int32) (x3 : Int32) (M : jM) (e3 : Int32) (Me : jM), rec x1 x3 M = some (e3, Me) → jJ Γ GM RM 59 [(0, .ref (jad Γ 0)), (1, .int x1), (2, .int x2), (3, .int e3)] [] Me Q → jJ Γ GM RM 34 [(0, .ref (jad Γ 0)), (1, .int x1), (2, .int x2), (3, .int x3)] [] M Q) (x1 : Int32) (x3 : Int32) (M : jM) (e3 : Int32) (Me : jM) (h : f_X6_text_L34_b rec x1 x3 M = some (e3, Me)) (hK : jJ Γ GM RM 59 [(0, .ref (jad Γ 0)), (1, .int x1), (2, .int x2), (3, .int e3)] [] Me Q) : jJ Γ GM RM 34 [(0, .ref (jad Γ 0)), (1, .int x1), (2, .int x2), (3, .int x3)] [] M Q := by
  unfold f_X6_text_L34_b at h
  refine j_iload_n 3 (pc' := 35) hC dX6_text_34 rfl rfl ?_
  refine j_bipush (v := 80) (pc' := 37) hC dX6_text_35 rfl rfl ?_
  refine j_icmp_ge (tgt := 59) (pc' := 40) hC dX6_text_37 (by decide) rfl (fun c1 => ?_) (fun c1 => ?_)
  · have h := jit_t c1 h
    obtain ⟨q0, q1⟩ := jinj2 h
    subst q0
    subst q1
    refine j_sub [0, 1, 2, 3] rfl ?_
    exact hK
  · have h := jit_f c1 h
    refine j_aload_n 0 (pc' := 41) hC dX6_text_40 rfl rfl ?_
    refine j_getr' (o2 := 4) (pc' := 44) hC dX6_text_41 rfl fi_X6_19 gm0 rfl ?_
    refine j_bipush (v := 80) (pc' := 46) hC dX6_text_44 rfl rfl ?_
    refine j_iload_n 1 (pc' := 47) hC dX6_text_46 rfl rfl ?_
    refine j_imul (pc' := 48) hC dX6_text_47 rfl ?_
    refine j_iload_n 3 (pc' := 49) hC dX6_text_48 rfl rfl ?_
    refine j_iadd (pc' := 50) hC dX6_text_49 rfl ?_
    refine j_bipush (v := 32) (pc' := 52) hC dX6_text_50 rfl rfl ?_
    obtain ⟨g2, h⟩ := jg_s h
    obtain ⟨M3, eM3, h⟩ := jlet_s h
    refine j_iast' (pc' := 53) hC dX6_text_52 rfl gm4 g2 eM3 ?_
    obtain ⟨v4, ev4, h⟩ := jlet_s h
    refine j_iinc' 3 (c := 1) (pc' := 56) hC dX6_text_53 rfl rfl rfl ev4 (by decide) rfl ?_
    refine j_goto (tgt := 34) (pc' := 0) hC dX6_text_56 (by decide) ?_
    refine j_sub [1, 2, 3, 0] rfl ?_
    exact ih _ _ _ _ _ h hK
theorem lp_X6_text_L34 {Γ : jG} (hC : jOK Γ cX6_text 4 RX6 (some .int) { frames := 2, cells := 0, slots := 0, locals := 45 }) {Q : State → Prop} (x2 : Int32) : ∀ (n : Nat) (x1 : Int32) (x3 : Int32) (M : jM) (e3 : Int32) (Me : jM), f_X6_text_L34 n x1 x3 M = some (e3, Me) → jJ Γ GM RM 59 [(0, .ref (jad Γ 0)), (1, .int x1), (2, .int x2), (3, .int e3)] [] Me Q → jJ Γ GM RM 34 [(0, .ref (jad Γ 0)), (1, .int x1), (2, .int x2), (3, .int x3)] [] M Q := by
  intro n
  induction n with
  | zero =>
    intro x1 x3 M e3 Me h hK
    exact jno h
  | succ n ih =>
    intro x1 x3 M e3 Me h hK
    exact lp_X6_text_L34_b hC x2 (f_X6_text_L34 n) ih x1 x3 M e3 Me h hK
theorem t_X6_text (l : Launch) (E : jE) {a1 : Int32} {a2 : Int32} {M : jM} {r : Int32} {M' : jM} (h : f_X6_text a1 a2 M = some (r, M')) : jCi l yX6_text cX6_text 4 (some .int) 2 45 E RM GM (fun a _ => [.ref (a 0), .int a1, .int a2]) M r M' := by
  refine jCi_of (own := RX6) (by decide) rfl (fun _ _ => Nat.le_of_ble_eq_true rfl) ?_
  intro Γ hC
  show jJ Γ GM RM 0 [(0, .ref (jad Γ 0)), (1, .int a1), (2, .int a2)] [] M (jQi Γ RM GM r M')
  unfold f_X6_text at h
  refine j_iload_n 1 (pc' := 1) hC dX6_text_0 rfl rfl ?_
  obtain ⟨r1, hc2, h⟩ := jb1_s h
  refine j_callSi [.int a1] (pc' := 4) hC dX6_text_1 rfl (t_X6_isText _ _ hc2) cs_X6_114 ⟨⟨Nat.le_of_ble_eq_true rfl, Nat.le_of_ble_eq_true rfl⟩, rfl, Nat.le_of_ble_eq_true rfl⟩ rfl rfl ?_
  refine j_if_eq (tgt := 13) (pc' := 7) hC dX6_text_4 (by decide) rfl (fun c3 => ?_) (fun c3 => ?_)
  · have h := jit_t c3 h
    refine j_iconst (v := -1) (pc' := 14) hC dX6_text_13 rfl rfl ?_
    obtain ⟨q0, q1⟩ := jinj2 h
    subst q0
    subst q1
    exact j_iret hC dX6_text_14
  · have h := jit_f c3 h
    refine j_iload_n 2 (pc' := 8) hC dX6_text_7 rfl rfl ?_
    refine j_bipush (v := 80) (pc' := 10) hC dX6_text_8 rfl rfl ?_
    refine j_icmp_le (tgt := 15) (pc' := 13) hC dX6_text_10 (by decide) rfl (fun c4 => ?_) (fun c4 => ?_)
    · have h := jit_t c4 h
      refine j_iload_n 2 (pc' := 16) hC dX6_text_15 rfl rfl ?_
      refine j_if_ge (tgt := 25) (pc' := 19) hC dX6_text_16 (by decide) rfl (fun c5 => ?_) (fun c5 => ?_)
      · have h := jit_t c5 h
        refine j_aload_n 0 (pc' := 26) hC dX6_text_25 rfl rfl ?_
        refine j_getr' (o2 := 3) (pc' := 29) hC dX6_text_26 rfl fi_X6_16 gm0 rfl ?_
        refine j_iload_n 1 (pc' := 30) hC dX6_text_29 rfl rfl ?_
        refine j_iload_n 2 (pc' := 31) hC dX6_text_30 rfl rfl ?_
        obtain ⟨g6, h⟩ := jg_s h
        obtain ⟨M7, eM7, h⟩ := jlet_s h
        refine j_iast' (pc' := 32) hC dX6_text_31 rfl gm3 g6 eM7 ?_
        refine j_iconst (v := 0) (pc' := 33) hC dX6_text_32 rfl rfl ?_
        refine j_istore_n (pc' := 34) hC dX6_text_33 rfl rfl (by decide) rfl ?_
        refine j_sub [1, 2, 3, 0] rfl ?_
        obtain ⟨v8, M9, hm10, h⟩ := jb2_s h
        refine lp_X6_text_L34 hC a2 jfu a1 (0 : Int32) M7 v8 M9 hm10 ?_
        refine j_iload_n 2 (pc' := 60) hC dX6_text_59 rfl rfl ?_
        obtain ⟨q0, q1⟩ := jinj2 h
        subst q0
        subst q1
        exact j_iret hC dX6_text_60
      · have h := jit_f c5 h
        refine j_aload_n 0 (pc' := 20) hC dX6_text_19 rfl rfl ?_
        refine j_iconst (v := 5) (pc' := 21) hC dX6_text_20 rfl rfl ?_
        obtain ⟨r11, M12, hc13, h⟩ := jb2_s h
        refine j_callVi [.int (5 : Int32)] (pc' := 24) hC dX6_text_21 rfl (t_X6_find _ _ hc13) gm0 vcl6 cv_X6_103 ⟨⟨Nat.le_of_ble_eq_true rfl, Nat.le_of_ble_eq_true rfl⟩, rfl, Nat.le_of_ble_eq_true rfl⟩ rfl rfl ?_
        obtain ⟨q0, q1⟩ := jinj2 h
        subst q0
        subst q1
        exact j_iret hC dX6_text_24
    · have h := jit_f c4 h
      refine j_iconst (v := -1) (pc' := 14) hC dX6_text_13 rfl rfl ?_
      obtain ⟨q0, q1⟩ := jinj2 h
      subst q0
      subst q1
      exact j_iret hC dX6_text_14
theorem t_X6_put (l : Launch) (E : jE) {a1 : Int32} {a2 : Int32} {a3 : Int32} {M : jM} {r : Int32} {M' : jM} (h : f_X6_put a1 a2 a3 M = some (r, M')) : jCi l yX6_put cX6_put 5 (some .int) 2 45 E RM GM (fun a _ => [.ref (a 0), .int a1, .int a2, .int a3]) M r M' := by
  refine jCi_of (own := RX6) (by decide) rfl (fun _ _ => Nat.le_of_ble_eq_true rfl) ?_
  intro Γ hC
  show jJ Γ GM RM 0 [(0, .ref (jad Γ 0)), (1, .int a1), (2, .int a2), (3, .int a3)] [] M (jQi Γ RM GM r M')
  unfold f_X6_put at h
  refine j_iload_n 1 (pc' := 1) hC dX6_put_0 rfl rfl ?_
  obtain ⟨r1, hc2, h⟩ := jb1_s h
  refine j_callSi [.int a1] (pc' := 4) hC dX6_put_1 rfl (t_X6_isText _ _ hc2) cs_X6_114 ⟨⟨Nat.le_of_ble_eq_true rfl, Nat.le_of_ble_eq_true rfl⟩, rfl, Nat.le_of_ble_eq_true rfl⟩ rfl rfl ?_
  refine j_if_ne (tgt := 9) (pc' := 7) hC dX6_put_4 (by decide) rfl (fun c3 => ?_) (fun c3 => ?_)
  · have h := jit_f c3 h
    refine j_aload_n 0 (pc' := 10) hC dX6_put_9 rfl rfl ?_
    refine j_getr' (o2 := 3) (pc' := 13) hC dX6_put_10 rfl fi_X6_16 gm0 rfl ?_
    refine j_iload_n 1 (pc' := 14) hC dX6_put_13 rfl rfl ?_
    obtain ⟨g4, h⟩ := jg_s h
    refine j_iald (pc' := 15) hC dX6_put_14 rfl gm3 g4 ?_
    refine j_if_ge (tgt := 24) (pc' := 18) hC dX6_put_15 (by decide) rfl (fun c5 => ?_) (fun c5 => ?_)
    · have h := jit_t c5 h
      refine j_iload_n 2 (pc' := 25) hC dX6_put_24 rfl rfl ?_
      refine j_i2l (pc' := 26) hC dX6_put_25 rfl ?_
      refine j_lconst (v := 0) (pc' := 27) hC dX6_put_26 rfl rfl ?_
      refine j_aload_n 0 (pc' := 28) hC dX6_put_27 rfl rfl ?_
      refine j_getr' (o2 := 3) (pc' := 31) hC dX6_put_28 rfl fi_X6_16 gm0 rfl ?_
      refine j_iload_n 1 (pc' := 32) hC dX6_put_31 rfl rfl ?_
      obtain ⟨g6, h⟩ := jg_s h
      refine j_iald (pc' := 33) hC dX6_put_32 rfl gm3 g6 ?_
      refine j_iconst (v := 1) (pc' := 34) hC dX6_put_33 rfl rfl ?_
      refine j_isub (pc' := 35) hC dX6_put_34 rfl ?_
      refine j_i2l (pc' := 36) hC dX6_put_35 rfl ?_
      obtain ⟨r7, hc8, h⟩ := jb1_s h
      refine j_callSi [.long a2.toInt64, .long (0 : Int64), .long ((gi M 3 a1.toNatClampNeg) - (1 : Int32)).toInt64] (pc' := 39) hC dX6_put_36 rfl (t_X6_in _ _ hc8) cs_X6_93 ⟨⟨Nat.le_of_ble_eq_true rfl, Nat.le_of_ble_eq_true rfl⟩, rfl, Nat.le_of_ble_eq_true rfl⟩ rfl rfl ?_
      refine j_if_ne (tgt := 48) (pc' := 42) hC dX6_put_39 (by decide) rfl (fun c9 => ?_) (fun c9 => ?_)
      · have h := jit_f c9 h
        refine j_aload_n 0 (pc' := 49) hC dX6_put_48 rfl rfl ?_
        refine j_getr' (o2 := 4) (pc' := 52) hC dX6_put_49 rfl fi_X6_19 gm0 rfl ?_
        refine j_bipush (v := 80) (pc' := 54) hC dX6_put_52 rfl rfl ?_
        refine j_iload_n 1 (pc' := 55) hC dX6_put_54 rfl rfl ?_
        refine j_imul (pc' := 56) hC dX6_put_55 rfl ?_
        refine j_iload_n 2 (pc' := 57) hC dX6_put_56 rfl rfl ?_
        refine j_iadd (pc' := 58) hC dX6_put_57 rfl ?_
        obtain ⟨g10, h⟩ := jg_s h
        refine j_iald (pc' := 59) hC dX6_put_58 rfl gm4 g10 ?_
        obtain ⟨v11, ev11, h⟩ := jlet_s h
        refine j_istore (pc' := 61) hC dX6_put_59 rfl ev11 (by decide) rfl ?_
        refine j_aload_n 1 (pc' := 62) hC dX6_put_61 rfl rfl ?_
        refine j_getr' (o2 := 4) (pc' := 65) hC dX6_put_62 rfl fi_X6_19 gm0 rfl ?_
        refine j_bipush (v := 80) (pc' := 67) hC dX6_put_65 rfl rfl ?_
        refine j_iload_n 2 (pc' := 68) hC dX6_put_67 rfl rfl ?_
        refine j_imul (pc' := 69) hC dX6_put_68 rfl ?_
        refine j_iload_n 3 (pc' := 70) hC dX6_put_69 rfl rfl ?_
        refine j_iadd (pc' := 71) hC dX6_put_70 rfl ?_
        refine j_iload_n 4 (pc' := 72) hC dX6_put_71 rfl rfl ?_
        refine j_bipush (v := 24) (pc' := 74) hC dX6_put_72 rfl rfl ?_
        refine j_ishl (pc' := 75) hC dX6_put_74 rfl ?_
        refine j_bipush (v := 24) (pc' := 77) hC dX6_put_75 rfl rfl ?_
        refine j_ishr (pc' := 78) hC dX6_put_77 rfl ?_
        obtain ⟨g12, h⟩ := jg_s h
        obtain ⟨M13, eM13, h⟩ := jlet_s h
        refine j_iast' (pc' := 79) hC dX6_put_78 rfl gm4 g12 eM13 ?_
        refine j_iload 0 (pc' := 81) hC dX6_put_79 rfl rfl ?_
        refine j_sipush (v := 1000) (pc' := 84) hC dX6_put_81 rfl rfl ?_
        refine j_iadd (pc' := 85) hC dX6_put_84 rfl ?_
        obtain ⟨q0, q1⟩ := jinj2 h
        subst q0
        subst q1
        exact j_iret hC dX6_put_85
      · have h := jit_t c9 h
        refine j_aload_n 0 (pc' := 43) hC dX6_put_42 rfl rfl ?_
        refine j_iconst (v := 2) (pc' := 44) hC dX6_put_43 rfl rfl ?_
        obtain ⟨r14, M15, hc16, h⟩ := jb2_s h
        refine j_callVi [.int (2 : Int32)] (pc' := 47) hC dX6_put_44 rfl (t_X6_find _ _ hc16) gm0 vcl6 cv_X6_103 ⟨⟨Nat.le_of_ble_eq_true rfl, Nat.le_of_ble_eq_true rfl⟩, rfl, Nat.le_of_ble_eq_true rfl⟩ rfl rfl ?_
        obtain ⟨q0, q1⟩ := jinj2 h
        subst q0
        subst q1
        exact j_iret hC dX6_put_47
    · have h := jit_f c5 h
      refine j_aload_n 0 (pc' := 19) hC dX6_put_18 rfl rfl ?_
      refine j_iconst (v := 1) (pc' := 20) hC dX6_put_19 rfl rfl ?_
      obtain ⟨r17, M18, hc19, h⟩ := jb2_s h
      refine j_callVi [.int (1 : Int32)] (pc' := 23) hC dX6_put_20 rfl (t_X6_find _ _ hc19) gm0 vcl6 cv_X6_103 ⟨⟨Nat.le_of_ble_eq_true rfl, Nat.le_of_ble_eq_true rfl⟩, rfl, Nat.le_of_ble_eq_true rfl⟩ rfl rfl ?_
      obtain ⟨q0, q1⟩ := jinj2 h
      subst q0
      subst q1
      exact j_iret hC dX6_put_23
  · have h := jit_t c3 h
    refine j_iconst (v := -1) (pc' := 8) hC dX6_put_7 rfl rfl ?_
    obtain ⟨q0, q1⟩ := jinj2 h
    subst q0
    subst q1
    exact j_iret hC dX6_put_8
theorem t_X6_isEnd (l : Launch) (E : jE) {a1 : Int32} {M : jM} {r : Int32} (h : f_X6_isEnd a1 M = some r) : jCi l yX6_isEnd cX6_isEnd 2 (some .boolean) 0 0 E RM GM (fun a _ => [.ref (a 0), .int a1]) M r M := by
  refine jCi_of (own := RX6) (by decide) rfl (fun _ _ => Nat.le_of_ble_eq_true rfl) ?_
  intro Γ hC
  show jJ Γ GM RM 0 [(0, .ref (jad Γ 0)), (1, .int a1)] [] M (jQi Γ RM GM r M)
  unfold f_X6_isEnd at h
  refine j_aload_n 0 (pc' := 1) hC dX6_isEnd_0 rfl rfl ?_
  refine j_geti' (pc' := 4) hC dX6_isEnd_1 rfl fi_X6_117 gm0 ?_
  refine j_aload_n 0 (pc' := 5) hC dX6_isEnd_4 rfl rfl ?_
  refine j_getr' (o2 := 3) (pc' := 8) hC dX6_isEnd_5 rfl fi_X6_16 gm0 rfl ?_
  refine j_iload_n 1 (pc' := 9) hC dX6_isEnd_8 rfl rfl ?_
  obtain ⟨g1, h⟩ := jg_s h
  refine j_iald (pc' := 10) hC dX6_isEnd_9 rfl gm3 g1 ?_
  refine j_icmp_lt (tgt := 17) (pc' := 13) hC dX6_isEnd_10 (by decide) rfl (fun c2 => ?_) (fun c2 => ?_)
  · have h := jit_t c2 h
    refine j_iconst (v := 0) (pc' := 18) hC dX6_isEnd_17 rfl rfl ?_
    have q8 := jinj1 h
    subst q8
    exact j_zret hC dX6_isEnd_18 (by decide)
  · have h := jit_f c2 h
    refine j_iconst (v := 1) (pc' := 14) hC dX6_isEnd_13 rfl rfl ?_
    refine j_goto (tgt := 18) (pc' := 0) hC dX6_isEnd_14 (by decide) ?_
    have q8 := jinj1 h
    subst q8
    exact j_zret hC dX6_isEnd_18 (by decide)
theorem t_X6_byteAt (l : Launch) (E : jE) {a1 : Int32} {M : jM} {r : Int32} (h : f_X6_byteAt a1 M = some r) : jCi l yX6_byteAt cX6_byteAt 2 (some .int) 1 21 E RM GM (fun a _ => [.ref (a 0), .int a1]) M r M := by
  refine jCi_of (own := RX6) (by decide) rfl (fun _ _ => Nat.le_of_ble_eq_true rfl) ?_
  intro Γ hC
  show jJ Γ GM RM 0 [(0, .ref (jad Γ 0)), (1, .int a1)] [] M (jQi Γ RM GM r M)
  unfold f_X6_byteAt at h
  refine j_aload_n 0 (pc' := 1) hC dX6_byteAt_0 rfl rfl ?_
  refine j_iload_n 1 (pc' := 2) hC dX6_byteAt_1 rfl rfl ?_
  obtain ⟨r1, hc2, h⟩ := jb1_s h
  refine j_callVi [.int a1] (pc' := 5) hC dX6_byteAt_2 rfl (t_X6_isEnd _ _ hc2) gm0 vcl6 cv_X6_120 ⟨⟨Nat.le_of_ble_eq_true rfl, Nat.le_of_ble_eq_true rfl⟩, rfl, Nat.le_of_ble_eq_true rfl⟩ rfl rfl ?_
  refine j_if_eq (tgt := 12) (pc' := 8) hC dX6_byteAt_5 (by decide) rfl (fun c3 => ?_) (fun c3 => ?_)
  · have h := jit_t c3 h
    refine j_aload_n 0 (pc' := 13) hC dX6_byteAt_12 rfl rfl ?_
    refine j_getr' (o2 := 4) (pc' := 16) hC dX6_byteAt_13 rfl fi_X6_19 gm0 rfl ?_
    refine j_bipush (v := 80) (pc' := 18) hC dX6_byteAt_16 rfl rfl ?_
    refine j_iload_n 1 (pc' := 19) hC dX6_byteAt_18 rfl rfl ?_
    refine j_imul (pc' := 20) hC dX6_byteAt_19 rfl ?_
    refine j_aload_n 0 (pc' := 21) hC dX6_byteAt_20 rfl rfl ?_
    refine j_geti' (pc' := 24) hC dX6_byteAt_21 rfl fi_X6_117 gm0 ?_
    refine j_iadd (pc' := 25) hC dX6_byteAt_24 rfl ?_
    obtain ⟨g4, h⟩ := jg_s h
    refine j_iald (pc' := 26) hC dX6_byteAt_25 rfl gm4 g4 ?_
    have q8 := jinj1 h
    subst q8
    exact j_iret hC dX6_byteAt_26
  · have h := jit_f c3 h
    refine j_iconst (v := 0) (pc' := 9) hC dX6_byteAt_8 rfl rfl ?_
    refine j_goto (tgt := 26) (pc' := 0) hC dX6_byteAt_9 (by decide) ?_
    have q8 := jinj1 h
    subst q8
    exact j_iret hC dX6_byteAt_26
theorem lp_X6_skipBlanks_L0_b {Γ : jG} (hC : jOK Γ cX6_skipBlanks 2 RX6 (none) { frames := 2, cells := 0, slots := 0, locals := 42 }) {Q : State → Prop} (rec : Int32 → jM → Option (jM)) (ih : ∀ (x1 : Int32) (M : jM) (Me : jM), rec x1 M = some Me → jJ Γ GM RM 31 [(0, .ref (jad Γ 0)), (1, .int x1)] [] Me Q → jJ Γ GM RM 0 [(0, .ref (jad Γ 0)), (1, .int x1)] [] M Q) (x1 : Int32) (M : jM) (Me : jM) (h : f_X6_skipBlanks_L0_b rec x1 M = some Me) (hK : jJ Γ GM RM 31 [(0, .ref (jad Γ 0)), (1, .int x1)] [] Me Q) : jJ Γ GM RM 0 [(0, .ref (jad Γ 0)), (1, .int x1)] [] M Q := by
  unfold f_X6_skipBlanks_L0_b at h
  refine j_aload_n 0 (pc' := 1) hC dX6_skipBlanks_0 rfl rfl ?_
  refine j_iload_n 1 (pc' := 2) hC dX6_skipBlanks_1 rfl rfl ?_
  obtain ⟨r1, hc2, h⟩ := jb1_s h
  refine j_callVi [.int x1] (pc' := 5) hC dX6_skipBlanks_2 rfl (t_X6_isEnd _ _ hc2) gm0 vcl6 cv_X6_120 ⟨⟨Nat.le_of_ble_eq_true rfl, Nat.le_of_ble_eq_true rfl⟩, rfl, Nat.le_of_ble_eq_true rfl⟩ rfl rfl ?_
  refine j_if_ne (tgt := 31) (pc' := 8) hC dX6_skipBlanks_5 (by decide) rfl (fun c3 => ?_) (fun c3 => ?_)
  · have h := jit_f c3 h
    have q8 := jinj1 h
    subst q8
    refine j_sub [0, 1] rfl ?_
    exact hK
  · have h := jit_t c3 h
    refine j_aload_n 0 (pc' := 9) hC dX6_skipBlanks_8 rfl rfl ?_
    refine j_iload_n 1 (pc' := 10) hC dX6_skipBlanks_9 rfl rfl ?_
    obtain ⟨r4, hc5, h⟩ := jb1_s h
    refine j_callVi [.int x1] (pc' := 13) hC dX6_skipBlanks_10 rfl (t_X6_byteAt _ _ hc5) gm0 vcl6 cv_X6_123 ⟨⟨Nat.le_of_ble_eq_true rfl, Nat.le_of_ble_eq_true rfl⟩, rfl, Nat.le_of_ble_eq_true rfl⟩ rfl rfl ?_
    refine j_bipush (v := 32) (pc' := 15) hC dX6_skipBlanks_13 rfl rfl ?_
    refine j_icmp_ne (tgt := 31) (pc' := 18) hC dX6_skipBlanks_15 (by decide) rfl (fun c6 => ?_) (fun c6 => ?_)
    · have h := jit_f c6 h
      have q8 := jinj1 h
      subst q8
      refine j_sub [0, 1] rfl ?_
      exact hK
    · have h := jit_t c6 h
      refine j_aload_n 0 (pc' := 19) hC dX6_skipBlanks_18 rfl rfl ?_
      refine j_dup (pc' := 20) hC dX6_skipBlanks_19 rfl rfl ?_
      refine j_geti' (pc' := 23) hC dX6_skipBlanks_20 rfl fi_X6_117 gm0 ?_
      refine j_iconst (v := 1) (pc' := 24) hC dX6_skipBlanks_23 rfl rfl ?_
      refine j_iadd (pc' := 25) hC dX6_skipBlanks_24 rfl ?_
      obtain ⟨M7, eM7, h⟩ := jlet_s h
      refine j_puti' (pc' := 28) hC dX6_skipBlanks_25 rfl fp_X6_117 gm0 eM7 ?_
      refine j_goto (tgt := 0) (pc' := 0) hC dX6_skipBlanks_28 (by decide) ?_
      refine j_sub [0, 1] rfl ?_
      exact ih _ _ _ h hK
theorem lp_X6_skipBlanks_L0 {Γ : jG} (hC : jOK Γ cX6_skipBlanks 2 RX6 (none) { frames := 2, cells := 0, slots := 0, locals := 42 }) {Q : State → Prop} : ∀ (n : Nat) (x1 : Int32) (M : jM) (Me : jM), f_X6_skipBlanks_L0 n x1 M = some Me → jJ Γ GM RM 31 [(0, .ref (jad Γ 0)), (1, .int x1)] [] Me Q → jJ Γ GM RM 0 [(0, .ref (jad Γ 0)), (1, .int x1)] [] M Q := by
  intro n
  induction n with
  | zero =>
    intro x1 M Me h hK
    exact jno h
  | succ n ih =>
    intro x1 M Me h hK
    exact lp_X6_skipBlanks_L0_b hC (f_X6_skipBlanks_L0 n) ih x1 M Me h hK
theorem t_X6_skipBlanks (l : Launch) (E : jE) {a1 : Int32} {M : jM} {M' : jM} (h : f_X6_skipBlanks a1 M = some M') : jCv l yX6_skipBlanks cX6_skipBlanks 2 (none) 2 42 E RM GM (fun a _ => [.ref (a 0), .int a1]) M M' := by
  refine jCv_of (own := RX6) (by decide) rfl (fun _ _ => Nat.le_of_ble_eq_true rfl) ?_
  intro Γ hC
  show jJ Γ GM RM 0 [(0, .ref (jad Γ 0)), (1, .int a1)] [] M (jQv Γ RM GM M')
  unfold f_X6_skipBlanks at h
  refine j_sub [0, 1] rfl ?_
  obtain ⟨M1, hm2, h⟩ := jb1_s h
  refine lp_X6_skipBlanks_L0 hC  jfu a1 M M1 hm2 ?_
  have q8 := jinj1 h
  subst q8
  exact j_vret hC dX6_skipBlanks_31
theorem t_X6_sign (l : Launch) (E : jE) {a1 : Int32} {a2 : Int32} {a3 : Int32} {M : jM} {r : Int32} {M' : jM} (h : f_X6_sign a1 a2 a3 M = some (r, M')) : jCi l yX6_sign cX6_sign 5 (some .int) 2 42 E RM GM (fun a _ => [.ref (a 0), .int a1, .int a2, .int a3]) M r M' := by
  refine jCi_of (own := RX6) (by decide) rfl (fun _ _ => Nat.le_of_ble_eq_true rfl) ?_
  intro Γ hC
  show jJ Γ GM RM 0 [(0, .ref (jad Γ 0)), (1, .int a1), (2, .int a2), (3, .int a3)] [] M (jQi Γ RM GM r M')
  unfold f_X6_sign at h
  refine j_aload_n 0 (pc' := 1) hC dX6_sign_0 rfl rfl ?_
  refine j_iload_n 1 (pc' := 2) hC dX6_sign_1 rfl rfl ?_
  obtain ⟨r1, hc2, h⟩ := jb1_s h
  refine j_callVi [.int a1] (pc' := 5) hC dX6_sign_2 rfl (t_X6_byteAt _ _ hc2) gm0 vcl6 cv_X6_123 ⟨⟨Nat.le_of_ble_eq_true rfl, Nat.le_of_ble_eq_true rfl⟩, rfl, Nat.le_of_ble_eq_true rfl⟩ rfl rfl ?_
  refine j_iload_n 2 (pc' := 6) hC dX6_sign_5 rfl rfl ?_
  refine j_isub (pc' := 7) hC dX6_sign_6 rfl ?_
  obtain ⟨v3, ev3, h⟩ := jlet_s h
  refine j_istore (pc' := 9) hC dX6_sign_7 rfl ev3 (by decide) rfl ?_
  refine j_aload_n 1 (pc' := 10) hC dX6_sign_9 rfl rfl ?_
  refine j_iload_n 2 (pc' := 11) hC dX6_sign_10 rfl rfl ?_
  obtain ⟨r4, hc5, h⟩ := jb1_s h
  refine j_callVi [.int a1] (pc' := 14) hC dX6_sign_11 rfl (t_X6_isEnd _ _ hc5) gm0 vcl6 cv_X6_120 ⟨⟨Nat.le_of_ble_eq_true rfl, Nat.le_of_ble_eq_true rfl⟩, rfl, Nat.le_of_ble_eq_true rfl⟩ rfl rfl ?_
  refine j_if_ne (tgt := 31) (pc' := 17) hC dX6_sign_14 (by decide) rfl (fun c6 => ?_) (fun c6 => ?_)
  · have h := jit_f c6 h
    refine j_iconst (v := -1) (pc' := 32) hC dX6_sign_31 rfl rfl ?_
    obtain ⟨q0, q1⟩ := jinj2 h
    subst q0
    subst q1
    exact j_iret hC dX6_sign_32
  · have h := jit_t c6 h
    refine j_iload 0 (pc' := 19) hC dX6_sign_17 rfl rfl ?_
    refine j_i2l (pc' := 20) hC dX6_sign_19 rfl ?_
    refine j_lconst (v := 0) (pc' := 21) hC dX6_sign_20 rfl rfl ?_
    refine j_iload_n 4 (pc' := 22) hC dX6_sign_21 rfl rfl ?_
    refine j_iconst (v := 1) (pc' := 23) hC dX6_sign_22 rfl rfl ?_
    refine j_isub (pc' := 24) hC dX6_sign_23 rfl ?_
    refine j_i2l (pc' := 25) hC dX6_sign_24 rfl ?_
    obtain ⟨r7, hc8, h⟩ := jb1_s h
    refine j_callSi [.long v3.toInt64, .long (0 : Int64), .long (a3 - (1 : Int32)).toInt64] (pc' := 28) hC dX6_sign_25 rfl (t_X6_in _ _ hc8) cs_X6_93 ⟨⟨Nat.le_of_ble_eq_true rfl, Nat.le_of_ble_eq_true rfl⟩, rfl, Nat.le_of_ble_eq_true rfl⟩ rfl rfl ?_
    refine j_if_ne (tgt := 33) (pc' := 31) hC dX6_sign_28 (by decide) rfl (fun c9 => ?_) (fun c9 => ?_)
    · have h := jit_f c9 h
      refine j_aload_n 1 (pc' := 34) hC dX6_sign_33 rfl rfl ?_
      refine j_dup (pc' := 35) hC dX6_sign_34 rfl rfl ?_
      refine j_geti' (pc' := 38) hC dX6_sign_35 rfl fi_X6_117 gm0 ?_
      refine j_iconst (v := 1) (pc' := 39) hC dX6_sign_38 rfl rfl ?_
      refine j_iadd (pc' := 40) hC dX6_sign_39 rfl ?_
      obtain ⟨M10, eM10, h⟩ := jlet_s h
      refine j_puti' (pc' := 43) hC dX6_sign_40 rfl fp_X6_117 gm0 eM10 ?_
      refine j_iload 0 (pc' := 45) hC dX6_sign_43 rfl rfl ?_
      obtain ⟨q0, q1⟩ := jinj2 h
      subst q0
      subst q1
      exact j_iret hC dX6_sign_45
    · have h := jit_t c9 h
      refine j_iconst (v := -1) (pc' := 32) hC dX6_sign_31 rfl rfl ?_
      obtain ⟨q0, q1⟩ := jinj2 h
      subst q0
      subst q1
      exact j_iret hC dX6_sign_32
theorem t_X6_has (l : Launch) (E : jE) {a1 : Int32} {a2 : Int32} {M : jM} {r : Int32} (h : f_X6_has a1 a2 M = some r) : jCi l yX6_has cX6_has 2 (some .boolean) 0 0 E RM GM (fun _ _ => [.int a1, .int a2]) M r M := by
  refine jCi_of (own := RX6) (by decide) rfl (fun _ _ => Nat.le_of_ble_eq_true rfl) ?_
  intro Γ hC
  show jJ Γ GM RM 0 [(0, .int a1), (1, .int a2)] [] M (jQi Γ RM GM r M)
  unfold f_X6_has at h
  refine j_iload_n 0 (pc' := 1) hC dX6_has_0 rfl rfl ?_
  refine j_iload_n 1 (pc' := 2) hC dX6_has_1 rfl rfl ?_
  refine j_ishr (pc' := 3) hC dX6_has_2 rfl ?_
  refine j_iconst (v := 1) (pc' := 4) hC dX6_has_3 rfl rfl ?_
  refine j_iand (pc' := 5) hC dX6_has_4 rfl ?_
  refine j_iconst (v := 1) (pc' := 6) hC dX6_has_5 rfl rfl ?_
  refine j_icmp_ne (tgt := 13) (pc' := 9) hC dX6_has_6 (by decide) rfl (fun c1 => ?_) (fun c1 => ?_)
  · have h := jit_f c1 h
    refine j_iconst (v := 0) (pc' := 14) hC dX6_has_13 rfl rfl ?_
    have q8 := jinj1 h
    subst q8
    exact j_zret hC dX6_has_14 (by decide)
  · have h := jit_t c1 h
    refine j_iconst (v := 1) (pc' := 10) hC dX6_has_9 rfl rfl ?_
    refine j_goto (tgt := 14) (pc' := 0) hC dX6_has_10 (by decide) ?_
    have q8 := jinj1 h
    subst q8
    exact j_zret hC dX6_has_14 (by decide)
theorem lp_X6_readDeed_L100_b {Γ : jG} (hC : jOK Γ cX6_readDeed 9 RX6 (some .boolean) { frames := 3, cells := 0, slots := 0, locals := 66 }) {Q : State → Prop} (x2 : Int32) (x3 : Int32) (x4 : Int32) (rec : Int32 → Int32 → Int32 → Int32 → jM → Option ((Int32 × jM) ⊕ (Int32 × Int32 × jM))) (ih : ∀ (x1 : Int32) (x5 : Int32) (x6 : Int32) (x7 : Int32) (M : jM) (res : (Int32 × jM) ⊕ (Int32 × Int32 × jM)), rec x1 x5 x6 x7 M = some res → (∀ (r : Int32) (M' : jM), res = .inl (r, M') → Q = jQi Γ RM GM r M') → (∀ (e6 : Int32) (e7 : Int32) (Me : jM), res = .inr (e6, e7, Me) → jJ Γ GM RM 179 [(0, .ref (jad Γ 0)), (1, .int x1), (2, .int x2), (3, .int x3), (4, .int x4), (5, .int x5), (6, .int e6), (7, .int e7)] [] Me Q) → jJ Γ GM RM 100 [(0, .ref (jad Γ 0)), (1, .int x1), (2, .int x2), (3, .int x3), (4, .int x4), (5, .int x5), (6, .int x6), (7, .int x7)] [] M Q) (x1 : Int32) (x5 : Int32) (x6 : Int32) (x7 : Int32) (M : jM) (res : (Int32 × jM) ⊕ (Int32 × Int32 × jM)) (h : f_X6_readDeed_L100_b rec x1 x5 x6 x7 M = some res) (hQ : ∀ (r : Int32) (M' : jM), res = .inl (r, M') → Q = jQi Γ RM GM r M') (hK : ∀ (e6 : Int32) (e7 : Int32) (Me : jM), res = .inr (e6, e7, Me) → jJ Γ GM RM 179 [(0, .ref (jad Γ 0)), (1, .int x1), (2, .int x2), (3, .int x3), (4, .int x4), (5, .int x5), (6, .int e6), (7, .int e7)] [] Me Q) : jJ Γ GM RM 100 [(0, .ref (jad Γ 0)), (1, .int x1), (2, .int x2), (3, .int x3), (4, .int x4), (5, .int x5), (6, .int x6), (7, .int x7)] [] M Q := by
  unfold f_X6_readDeed_L100_b at h
  refine j_iload 7 (pc' := 102) hC dX6_readDeed_100 rfl rfl ?_
  refine j_iload 5 (pc' := 104) hC dX6_readDeed_102 rfl rfl ?_
  refine j_icmp_ge (tgt := 179) (pc' := 107) hC dX6_readDeed_104 (by decide) rfl (fun c1 => ?_) (fun c1 => ?_)
  · have h := jit_t c1 h
    have q8 := jinj1 h
    subst q8
    refine j_sub [0, 1, 2, 3, 4, 5, 6, 7] rfl ?_
    exact hK _ _ _ rfl
  · have h := jit_f c1 h
    refine j_aload_n 0 (pc' := 108) hC dX6_readDeed_107 rfl rfl ?_
    refine j_iload_n 1 (pc' := 109) hC dX6_readDeed_108 rfl rfl ?_
    obtain ⟨r2, hc3, h⟩ := jb1_s h
    refine j_callVi [.int x1] (pc' := 112) hC dX6_readDeed_109 rfl (t_X6_byteAt _ _ hc3) gm0 vcl6 cv_X6_123 ⟨⟨Nat.le_of_ble_eq_true rfl, Nat.le_of_ble_eq_true rfl⟩, rfl, Nat.le_of_ble_eq_true rfl⟩ rfl rfl ?_
    refine j_bipush (v := 48) (pc' := 114) hC dX6_readDeed_112 rfl rfl ?_
    refine j_isub (pc' := 115) hC dX6_readDeed_114 rfl ?_
    obtain ⟨v4, ev4, h⟩ := jlet_s h
    refine j_istore (pc' := 117) hC dX6_readDeed_115 rfl ev4 (by decide) rfl ?_
    refine j_aload_n 1 (pc' := 118) hC dX6_readDeed_117 rfl rfl ?_
    refine j_iload_n 2 (pc' := 119) hC dX6_readDeed_118 rfl rfl ?_
    obtain ⟨r5, hc6, h⟩ := jb1_s h
    refine j_callVi [.int x1] (pc' := 122) hC dX6_readDeed_119 rfl (t_X6_isEnd _ _ hc6) gm0 vcl6 cv_X6_120 ⟨⟨Nat.le_of_ble_eq_true rfl, Nat.le_of_ble_eq_true rfl⟩, rfl, Nat.le_of_ble_eq_true rfl⟩ rfl rfl ?_
    refine j_if_ne (tgt := 152) (pc' := 125) hC dX6_readDeed_122 (by decide) rfl (fun c7 => ?_) (fun c7 => ?_)
    · have h := jit_f c7 h
      refine j_iconst (v := 0) (pc' := 153) hC dX6_readDeed_152 rfl rfl ?_
      have q8 := jinj1 h
      subst q8
      rw [hQ _ _ rfl]
      exact j_zret hC dX6_readDeed_153 (by decide)
    · have h := jit_t c7 h
      refine j_iload 0 (pc' := 127) hC dX6_readDeed_125 rfl rfl ?_
      refine j_i2l (pc' := 128) hC dX6_readDeed_127 rfl ?_
      refine j_lconst (v := 0) (pc' := 129) hC dX6_readDeed_128 rfl rfl ?_
      refine j_aload_n 1 (pc' := 130) hC dX6_readDeed_129 rfl rfl ?_
      refine j_geti' (pc' := 133) hC dX6_readDeed_130 rfl fi_X6_126 gm0 ?_
      refine j_iconst (v := 1) (pc' := 134) hC dX6_readDeed_133 rfl rfl ?_
      refine j_isub (pc' := 135) hC dX6_readDeed_134 rfl ?_
      refine j_i2l (pc' := 136) hC dX6_readDeed_135 rfl ?_
      obtain ⟨r8, hc9, h⟩ := jb1_s h
      refine j_callSi [.long v4.toInt64, .long (0 : Int64), .long ((gi M 0 24) - (1 : Int32)).toInt64] (pc' := 139) hC dX6_readDeed_136 rfl (t_X6_in _ _ hc9) cs_X6_93 ⟨⟨Nat.le_of_ble_eq_true rfl, Nat.le_of_ble_eq_true rfl⟩, rfl, Nat.le_of_ble_eq_true rfl⟩ rfl rfl ?_
      refine j_if_eq (tgt := 152) (pc' := 142) hC dX6_readDeed_139 (by decide) rfl (fun c10 => ?_) (fun c10 => ?_)
      · have h := jit_t c10 h
        refine j_iconst (v := 0) (pc' := 153) hC dX6_readDeed_152 rfl rfl ?_
        have q8 := jinj1 h
        subst q8
        rw [hQ _ _ rfl]
        exact j_zret hC dX6_readDeed_153 (by decide)
      · have h := jit_f c10 h
        refine j_iload 7 (pc' := 144) hC dX6_readDeed_142 rfl rfl ?_
        refine j_iload 0 (pc' := 146) hC dX6_readDeed_144 rfl rfl ?_
        obtain ⟨r11, hc12, h⟩ := jb1_s h
        refine j_callSi [.int x6, .int v4] (pc' := 149) hC dX6_readDeed_146 rfl (t_X6_has _ _ hc12) cs_X6_136 ⟨⟨Nat.le_of_ble_eq_true rfl, Nat.le_of_ble_eq_true rfl⟩, rfl, Nat.le_of_ble_eq_true rfl⟩ rfl rfl ?_
        refine j_if_eq (tgt := 154) (pc' := 152) hC dX6_readDeed_149 (by decide) rfl (fun c13 => ?_) (fun c13 => ?_)
        · have h := jit_t c13 h
          refine j_iload 7 (pc' := 156) hC dX6_readDeed_154 rfl rfl ?_
          refine j_iconst (v := 1) (pc' := 157) hC dX6_readDeed_156 rfl rfl ?_
          refine j_iload 0 (pc' := 159) hC dX6_readDeed_157 rfl rfl ?_
          refine j_ishl (pc' := 160) hC dX6_readDeed_159 rfl ?_
          refine j_ior (pc' := 161) hC dX6_readDeed_160 rfl ?_
          obtain ⟨v14, ev14, h⟩ := jlet_s h
          refine j_istore (pc' := 163) hC dX6_readDeed_161 rfl ev14 (by decide) rfl ?_
          refine j_aload_n 2 (pc' := 164) hC dX6_readDeed_163 rfl rfl ?_
          refine j_dup (pc' := 165) hC dX6_readDeed_164 rfl rfl ?_
          refine j_geti' (pc' := 168) hC dX6_readDeed_165 rfl fi_X6_117 gm0 ?_
          refine j_iconst (v := 1) (pc' := 169) hC dX6_readDeed_168 rfl rfl ?_
          refine j_iadd (pc' := 170) hC dX6_readDeed_169 rfl ?_
          obtain ⟨M15, eM15, h⟩ := jlet_s h
          refine j_puti' (pc' := 173) hC dX6_readDeed_170 rfl fp_X6_117 gm0 eM15 ?_
          obtain ⟨v16, ev16, h⟩ := jlet_s h
          refine j_iinc' 8 (c := 1) (pc' := 176) hC dX6_readDeed_173 rfl rfl rfl ev16 (by decide) rfl ?_
          refine j_goto (tgt := 100) (pc' := 0) hC dX6_readDeed_176 (by decide) ?_
          refine j_sub [3, 4, 5, 6, 7, 8, 1, 0] rfl ?_
          exact ih _ _ _ _ _ res h hQ hK
        · have h := jit_f c13 h
          refine j_iconst (v := 0) (pc' := 153) hC dX6_readDeed_152 rfl rfl ?_
          have q8 := jinj1 h
          subst q8
          rw [hQ _ _ rfl]
          exact j_zret hC dX6_readDeed_153 (by decide)
theorem lp_X6_readDeed_L100 {Γ : jG} (hC : jOK Γ cX6_readDeed 9 RX6 (some .boolean) { frames := 3, cells := 0, slots := 0, locals := 66 }) {Q : State → Prop} (x2 : Int32) (x3 : Int32) (x4 : Int32) : ∀ (n : Nat) (x1 : Int32) (x5 : Int32) (x6 : Int32) (x7 : Int32) (M : jM) (res : (Int32 × jM) ⊕ (Int32 × Int32 × jM)), f_X6_readDeed_L100 n x1 x5 x6 x7 M = some res → (∀ (r : Int32) (M' : jM), res = .inl (r, M') → Q = jQi Γ RM GM r M') → (∀ (e6 : Int32) (e7 : Int32) (Me : jM), res = .inr (e6, e7, Me) → jJ Γ GM RM 179 [(0, .ref (jad Γ 0)), (1, .int x1), (2, .int x2), (3, .int x3), (4, .int x4), (5, .int x5), (6, .int e6), (7, .int e7)] [] Me Q) → jJ Γ GM RM 100 [(0, .ref (jad Γ 0)), (1, .int x1), (2, .int x2), (3, .int x3), (4, .int x4), (5, .int x5), (6, .int x6), (7, .int x7)] [] M Q := by
  intro n
  induction n with
  | zero =>
    intro x1 x5 x6 x7 M res h hQ hK
    exact jno h
  | succ n ih =>
    intro x1 x5 x6 x7 M res h hQ hK
    exact lp_X6_readDeed_L100_b hC x2 x3 x4 (f_X6_readDeed_L100 n) ih x1 x5 x6 x7 M res h hQ hK
theorem t_X6_readDeed (l : Launch) (E : jE) {a1 : Int32} {a2 : Int32} {M : jM} {r : Int32} {M' : jM} (h : f_X6_readDeed a1 a2 M = some (r, M')) : jCi l yX6_readDeed cX6_readDeed 9 (some .boolean) 3 66 E RM GM (fun a _ => [.ref (a 0), .int a1, .int a2]) M r M' := by
  refine jCi_of (own := RX6) (by decide) rfl (fun _ _ => Nat.le_of_ble_eq_true rfl) ?_
  intro Γ hC
  show jJ Γ GM RM 0 [(0, .ref (jad Γ 0)), (1, .int a1), (2, .int a2)] [] M (jQi Γ RM GM r M')
  unfold f_X6_readDeed at h
  refine j_aload_n 0 (pc' := 1) hC dX6_readDeed_0 rfl rfl ?_
  refine j_geti' (pc' := 4) hC dX6_readDeed_1 rfl fi_X6_126 gm0 ?_
  refine j_bipush (v := 6) (pc' := 6) hC dX6_readDeed_4 rfl rfl ?_
  refine j_icmp_eq (tgt := 16) (pc' := 9) hC dX6_readDeed_6 (by decide) rfl (fun c1 => ?_) (fun c1 => ?_)
  · have h := jit_t c1 h
    refine j_iconst (v := 0) (pc' := 17) hC dX6_readDeed_16 rfl rfl ?_
    obtain ⟨q0, q1⟩ := jinj2 h
    subst q0
    subst q1
    exact j_zret hC dX6_readDeed_17 (by decide)
  · have h := jit_f c1 h
    refine j_aload_n 0 (pc' := 10) hC dX6_readDeed_9 rfl rfl ?_
    refine j_geti' (pc' := 13) hC dX6_readDeed_10 rfl fi_X6_129 gm0 ?_
    refine j_if_le (tgt := 18) (pc' := 16) hC dX6_readDeed_13 (by decide) rfl (fun c2 => ?_) (fun c2 => ?_)
    · have h := jit_t c2 h
      refine j_aload_n 0 (pc' := 19) hC dX6_readDeed_18 rfl rfl ?_
      refine j_dup (pc' := 20) hC dX6_readDeed_19 rfl rfl ?_
      refine j_geti' (pc' := 23) hC dX6_readDeed_20 rfl fi_X6_117 gm0 ?_
      refine j_iconst (v := 1) (pc' := 24) hC dX6_readDeed_23 rfl rfl ?_
      refine j_iadd (pc' := 25) hC dX6_readDeed_24 rfl ?_
      obtain ⟨M3, eM3, h⟩ := jlet_s h
      refine j_puti' (pc' := 28) hC dX6_readDeed_25 rfl fp_X6_117 gm0 eM3 ?_
      refine j_aload_n 0 (pc' := 29) hC dX6_readDeed_28 rfl rfl ?_
      refine j_iload_n 1 (pc' := 30) hC dX6_readDeed_29 rfl rfl ?_
      obtain ⟨r4, hc5, h⟩ := jb1_s h
      refine j_callVi [.int a1] (pc' := 33) hC dX6_readDeed_30 rfl (t_X6_byteAt _ _ hc5) gm0 vcl6 cv_X6_123 ⟨⟨Nat.le_of_ble_eq_true rfl, Nat.le_of_ble_eq_true rfl⟩, rfl, Nat.le_of_ble_eq_true rfl⟩ rfl rfl ?_
      refine j_istore_n (pc' := 34) hC dX6_readDeed_33 rfl rfl (by decide) rfl ?_
      refine j_iload_n 0 (pc' := 35) hC dX6_readDeed_34 rfl rfl ?_
      refine j_bipush (v := 100) (pc' := 37) hC dX6_readDeed_35 rfl rfl ?_
      obtain ⟨v9, hm11, h⟩ := jlet_s h
      have K10 : jJ Γ GM RM 65 [(0, .ref (jad Γ 0)), (1, .int a1), (2, .int a2), (3, .int r4)] [.int v9] M3 (jQi Γ RM GM r M') := by
        refine j_istore (pc' := 67) hC dX6_readDeed_65 rfl rfl (by decide) rfl ?_
        refine j_iload 0 (pc' := 69) hC dX6_readDeed_67 rfl rfl ?_
        refine j_if_ge (tgt := 74) (pc' := 72) hC dX6_readDeed_69 (by decide) rfl (fun c15 => ?_) (fun c15 => ?_)
        · have h := jit_t c15 h
          refine j_aload_n 1 (pc' := 75) hC dX6_readDeed_74 rfl rfl ?_
          refine j_dup (pc' := 76) hC dX6_readDeed_75 rfl rfl ?_
          refine j_geti' (pc' := 79) hC dX6_readDeed_76 rfl fi_X6_117 gm0 ?_
          refine j_iconst (v := 1) (pc' := 80) hC dX6_readDeed_79 rfl rfl ?_
          refine j_iadd (pc' := 81) hC dX6_readDeed_80 rfl ?_
          obtain ⟨M16, eM16, h⟩ := jlet_s h
          refine j_puti' (pc' := 84) hC dX6_readDeed_81 rfl fp_X6_117 gm0 eM16 ?_
          refine j_aload_n 1 (pc' := 85) hC dX6_readDeed_84 rfl rfl ?_
          refine j_iload_n 2 (pc' := 86) hC dX6_readDeed_85 rfl rfl ?_
          refine j_bipush (v := 48) (pc' := 88) hC dX6_readDeed_86 rfl rfl ?_
          refine j_iconst (v := 4) (pc' := 89) hC dX6_readDeed_88 rfl rfl ?_
          obtain ⟨r17, M18, hc19, h⟩ := jb2_s h
          refine j_callVi [.int a1, .int (48 : Int32), .int (4 : Int32)] (pc' := 92) hC dX6_readDeed_89 rfl (t_X6_sign _ _ hc19) gm0 vcl6 cv_X6_132 ⟨⟨Nat.le_of_ble_eq_true rfl, Nat.le_of_ble_eq_true rfl⟩, rfl, Nat.le_of_ble_eq_true rfl⟩ rfl rfl ?_
          refine j_istore (pc' := 94) hC dX6_readDeed_92 rfl rfl (by decide) rfl ?_
          refine j_iconst (v := 0) (pc' := 95) hC dX6_readDeed_94 rfl rfl ?_
          refine j_istore (pc' := 97) hC dX6_readDeed_95 rfl rfl (by decide) rfl ?_
          refine j_iconst (v := 0) (pc' := 98) hC dX6_readDeed_97 rfl rfl ?_
          refine j_istore (pc' := 100) hC dX6_readDeed_98 rfl rfl (by decide) rfl ?_
          refine j_sub [4, 5, 6, 7, 3, 2, 1, 0] rfl ?_
          rcases jr3_s h with hm23 | ⟨v20, v21, M22, hm23, h⟩
          · exact lp_X6_readDeed_L100 hC a2 r4 v9 jfu a1 r17 (0 : Int32) (0 : Int32) M18 _ hm23 (fun _ _ e => by cases e; rfl) (fun _ _ _ e => by cases e)
          · refine lp_X6_readDeed_L100 hC a2 r4 v9 jfu a1 r17 (0 : Int32) (0 : Int32) M18 _ hm23 (fun _ _ e => by cases e) (fun _ _ _ e => ?_)
            cases e
            refine j_iload 5 (pc' := 181) hC dX6_readDeed_179 rfl rfl ?_
            refine j_if_ge (tgt := 186) (pc' := 184) hC dX6_readDeed_181 (by decide) rfl (fun c24 => ?_) (fun c24 => ?_)
            · have h := jit_t c24 h
              refine j_aload_n 0 (pc' := 187) hC dX6_readDeed_186 rfl rfl ?_
              refine j_getr' (o2 := 16) (pc' := 190) hC dX6_readDeed_187 rfl fi_X6_59 gm0 rfl ?_
              refine j_iconst (v := 3) (pc' := 191) hC dX6_readDeed_190 rfl rfl ?_
              refine j_aload_n 0 (pc' := 192) hC dX6_readDeed_191 rfl rfl ?_
              refine j_geti' (pc' := 195) hC dX6_readDeed_192 rfl fi_X6_126 gm0 ?_
              refine j_imul (pc' := 196) hC dX6_readDeed_195 rfl ?_
              refine j_iload_n 2 (pc' := 197) hC dX6_readDeed_196 rfl rfl ?_
              obtain ⟨g25, h⟩ := jg_s h
              obtain ⟨M26, eM26, h⟩ := jlet_s h
              refine j_iast' (pc' := 198) hC dX6_readDeed_197 rfl gm16 g25 eM26 ?_
              refine j_aload_n 0 (pc' := 199) hC dX6_readDeed_198 rfl rfl ?_
              refine j_getr' (o2 := 16) (pc' := 202) hC dX6_readDeed_199 rfl fi_X6_59 gm0 rfl ?_
              refine j_iconst (v := 3) (pc' := 203) hC dX6_readDeed_202 rfl rfl ?_
              refine j_aload_n 0 (pc' := 204) hC dX6_readDeed_203 rfl rfl ?_
              refine j_geti' (pc' := 207) hC dX6_readDeed_204 rfl fi_X6_126 gm0 ?_
              refine j_imul (pc' := 208) hC dX6_readDeed_207 rfl ?_
              refine j_iconst (v := 1) (pc' := 209) hC dX6_readDeed_208 rfl rfl ?_
              refine j_iadd (pc' := 210) hC dX6_readDeed_209 rfl ?_
              refine j_iload 4 (pc' := 212) hC dX6_readDeed_210 rfl rfl ?_
              obtain ⟨g27, h⟩ := jg_s h
              obtain ⟨M28, eM28, h⟩ := jlet_s h
              refine j_iast' (pc' := 213) hC dX6_readDeed_212 rfl gm16 g27 eM28 ?_
              refine j_aload_n 0 (pc' := 214) hC dX6_readDeed_213 rfl rfl ?_
              refine j_getr' (o2 := 16) (pc' := 217) hC dX6_readDeed_214 rfl fi_X6_59 gm0 rfl ?_
              refine j_iconst (v := 3) (pc' := 218) hC dX6_readDeed_217 rfl rfl ?_
              refine j_aload_n 0 (pc' := 219) hC dX6_readDeed_218 rfl rfl ?_
              refine j_geti' (pc' := 222) hC dX6_readDeed_219 rfl fi_X6_126 gm0 ?_
              refine j_imul (pc' := 223) hC dX6_readDeed_222 rfl ?_
              refine j_iconst (v := 2) (pc' := 224) hC dX6_readDeed_223 rfl rfl ?_
              refine j_iadd (pc' := 225) hC dX6_readDeed_224 rfl ?_
              refine j_iload 6 (pc' := 227) hC dX6_readDeed_225 rfl rfl ?_
              obtain ⟨g29, h⟩ := jg_s h
              obtain ⟨M30, eM30, h⟩ := jlet_s h
              refine j_iast' (pc' := 228) hC dX6_readDeed_227 rfl gm16 g29 eM30 ?_
              refine j_aload_n 0 (pc' := 229) hC dX6_readDeed_228 rfl rfl ?_
              refine j_dup (pc' := 230) hC dX6_readDeed_229 rfl rfl ?_
              refine j_geti' (pc' := 233) hC dX6_readDeed_230 rfl fi_X6_126 gm0 ?_
              refine j_iconst (v := 1) (pc' := 234) hC dX6_readDeed_233 rfl rfl ?_
              refine j_iadd (pc' := 235) hC dX6_readDeed_234 rfl ?_
              obtain ⟨M31, eM31, h⟩ := jlet_s h
              refine j_puti' (pc' := 238) hC dX6_readDeed_235 rfl fp_X6_126 gm0 eM31 ?_
              refine j_iconst (v := 1) (pc' := 239) hC dX6_readDeed_238 rfl rfl ?_
              obtain ⟨q0, q1⟩ := jinj2 h
              subst q0
              subst q1
              exact j_zret hC dX6_readDeed_239 (by decide)
            · have h := jit_f c24 h
              refine j_iconst (v := 0) (pc' := 185) hC dX6_readDeed_184 rfl rfl ?_
              obtain ⟨q0, q1⟩ := jinj2 h
              subst q0
              subst q1
              exact j_zret hC dX6_readDeed_185 (by decide)
        · have h := jit_f c15 h
          refine j_iconst (v := 0) (pc' := 73) hC dX6_readDeed_72 rfl rfl ?_
          obtain ⟨q0, q1⟩ := jinj2 h
          subst q0
          subst q1
          exact j_zret hC dX6_readDeed_73 (by decide)
      refine j_icmp_ne (tgt := 44) (pc' := 40) hC dX6_readDeed_37 (by decide) rfl (fun c12 => ?_) (fun c12 => ?_)
      · have hm11 := jit_f c12 hm11
        refine j_iload_n 0 (pc' := 45) hC dX6_readDeed_44 rfl rfl ?_
        refine j_bipush (v := 110) (pc' := 47) hC dX6_readDeed_45 rfl rfl ?_
        refine j_icmp_ne (tgt := 54) (pc' := 50) hC dX6_readDeed_47 (by decide) rfl (fun c13 => ?_) (fun c13 => ?_)
        · have hm11 := jit_f c13 hm11
          refine j_iload_n 0 (pc' := 55) hC dX6_readDeed_54 rfl rfl ?_
          refine j_bipush (v := 101) (pc' := 57) hC dX6_readDeed_55 rfl rfl ?_
          refine j_icmp_ne (tgt := 64) (pc' := 60) hC dX6_readDeed_57 (by decide) rfl (fun c14 => ?_) (fun c14 => ?_)
          · have hm11 := jit_f c14 hm11
            refine j_iconst (v := -1) (pc' := 65) hC dX6_readDeed_64 rfl rfl ?_
            subst hm11
            exact j_sub [1, 2, 3, 0] rfl K10
          · have hm11 := jit_t c14 hm11
            refine j_iconst (v := 2) (pc' := 61) hC dX6_readDeed_60 rfl rfl ?_
            refine j_goto (tgt := 65) (pc' := 0) hC dX6_readDeed_61 (by decide) ?_
            subst hm11
            exact j_sub [1, 2, 3, 0] rfl K10
        · have hm11 := jit_t c13 hm11
          refine j_iconst (v := 1) (pc' := 51) hC dX6_readDeed_50 rfl rfl ?_
          refine j_goto (tgt := 65) (pc' := 0) hC dX6_readDeed_51 (by decide) ?_
          subst hm11
          exact j_sub [1, 2, 3, 0] rfl K10
      · have hm11 := jit_t c12 hm11
        refine j_iconst (v := 0) (pc' := 41) hC dX6_readDeed_40 rfl rfl ?_
        refine j_goto (tgt := 65) (pc' := 0) hC dX6_readDeed_41 (by decide) ?_
        subst hm11
        exact j_sub [1, 2, 3, 0] rfl K10
    · have h := jit_f c2 h
      refine j_iconst (v := 0) (pc' := 17) hC dX6_readDeed_16 rfl rfl ?_
      obtain ⟨q0, q1⟩ := jinj2 h
      subst q0
      subst q1
      exact j_zret hC dX6_readDeed_17 (by decide)
theorem t_X6_readHour (l : Launch) (E : jE) {a1 : Int32} {M : jM} {r : Int32} {M' : jM} (h : f_X6_readHour a1 M = some (r, M')) : jCi l yX6_readHour cX6_readHour 5 (some .boolean) 3 66 E RM GM (fun a _ => [.ref (a 0), .int a1]) M r M' := by
  refine jCi_of (own := RX6) (by decide) rfl (fun _ _ => Nat.le_of_ble_eq_true rfl) ?_
  intro Γ hC
  show jJ Γ GM RM 0 [(0, .ref (jad Γ 0)), (1, .int a1)] [] M (jQi Γ RM GM r M')
  unfold f_X6_readHour at h
  refine j_aload_n 0 (pc' := 1) hC dX6_readHour_0 rfl rfl ?_
  refine j_geti' (pc' := 4) hC dX6_readHour_1 rfl fi_X6_129 gm0 ?_
  refine j_bipush (v := 7) (pc' := 6) hC dX6_readHour_4 rfl rfl ?_
  refine j_icmp_eq (tgt := 16) (pc' := 9) hC dX6_readHour_6 (by decide) rfl (fun c1 => ?_) (fun c1 => ?_)
  · have h := jit_t c1 h
    refine j_iconst (v := 0) (pc' := 17) hC dX6_readHour_16 rfl rfl ?_
    obtain ⟨q0, q1⟩ := jinj2 h
    subst q0
    subst q1
    exact j_zret hC dX6_readHour_17 (by decide)
  · have h := jit_f c1 h
    refine j_aload_n 0 (pc' := 10) hC dX6_readHour_9 rfl rfl ?_
    refine j_geti' (pc' := 13) hC dX6_readHour_10 rfl fi_X6_126 gm0 ?_
    refine j_if_ne (tgt := 18) (pc' := 16) hC dX6_readHour_13 (by decide) rfl (fun c2 => ?_) (fun c2 => ?_)
    · have h := jit_f c2 h
      refine j_aload_n 0 (pc' := 19) hC dX6_readHour_18 rfl rfl ?_
      refine j_dup (pc' := 20) hC dX6_readHour_19 rfl rfl ?_
      refine j_geti' (pc' := 23) hC dX6_readHour_20 rfl fi_X6_117 gm0 ?_
      refine j_iconst (v := 1) (pc' := 24) hC dX6_readHour_23 rfl rfl ?_
      refine j_iadd (pc' := 25) hC dX6_readHour_24 rfl ?_
      obtain ⟨M3, eM3, h⟩ := jlet_s h
      refine j_puti' (pc' := 28) hC dX6_readHour_25 rfl fp_X6_117 gm0 eM3 ?_
      refine j_aload_n 0 (pc' := 29) hC dX6_readHour_28 rfl rfl ?_
      refine j_iload_n 1 (pc' := 30) hC dX6_readHour_29 rfl rfl ?_
      refine j_bipush (v := 65) (pc' := 32) hC dX6_readHour_30 rfl rfl ?_
      refine j_bipush (v := 24) (pc' := 34) hC dX6_readHour_32 rfl rfl ?_
      obtain ⟨r4, M5, hc6, h⟩ := jb2_s h
      refine j_callVi [.int a1, .int (65 : Int32), .int (24 : Int32)] (pc' := 37) hC dX6_readHour_34 rfl (t_X6_sign _ _ hc6) gm0 vcl6 cv_X6_132 ⟨⟨Nat.le_of_ble_eq_true rfl, Nat.le_of_ble_eq_true rfl⟩, rfl, Nat.le_of_ble_eq_true rfl⟩ rfl rfl ?_
      refine j_istore_n (pc' := 38) hC dX6_readHour_37 rfl rfl (by decide) rfl ?_
      refine j_iload_n 0 (pc' := 39) hC dX6_readHour_38 rfl rfl ?_
      obtain ⟨v11, M12, hm14, h⟩ := jb2_s h
      have K13 : jJ Γ GM RM 55 [(0, .ref (jad Γ 0)), (1, .int a1), (2, .int r4)] [.int v11] M12 (jQi Γ RM GM r M') := by
        refine j_istore_n (pc' := 56) hC dX6_readHour_55 rfl rfl (by decide) rfl ?_
        refine j_iload_n 0 (pc' := 57) hC dX6_readHour_56 rfl rfl ?_
        obtain ⟨v23, M24, hm26, h⟩ := jb2_s h
        have K25 : jJ Γ GM RM 72 [(0, .ref (jad Γ 0)), (1, .int a1), (2, .int r4), (3, .int v11)] [.int v23] M24 (jQi Γ RM GM r M') := by
          refine j_istore (pc' := 74) hC dX6_readHour_72 rfl rfl (by decide) rfl ?_
          refine j_iload 0 (pc' := 76) hC dX6_readHour_74 rfl rfl ?_
          refine j_if_ge (tgt := 81) (pc' := 79) hC dX6_readHour_76 (by decide) rfl (fun c31 => ?_) (fun c31 => ?_)
          · have h := jit_t c31 h
            refine j_aload_n 1 (pc' := 82) hC dX6_readHour_81 rfl rfl ?_
            refine j_getr' (o2 := 17) (pc' := 85) hC dX6_readHour_82 rfl fi_X6_62 gm0 rfl ?_
            refine j_iconst (v := 3) (pc' := 86) hC dX6_readHour_85 rfl rfl ?_
            refine j_aload_n 1 (pc' := 87) hC dX6_readHour_86 rfl rfl ?_
            refine j_geti' (pc' := 90) hC dX6_readHour_87 rfl fi_X6_129 gm0 ?_
            refine j_imul (pc' := 91) hC dX6_readHour_90 rfl ?_
            refine j_iload_n 3 (pc' := 92) hC dX6_readHour_91 rfl rfl ?_
            obtain ⟨g32, h⟩ := jg_s h
            obtain ⟨M33, eM33, h⟩ := jlet_s h
            refine j_iast' (pc' := 93) hC dX6_readHour_92 rfl gm17 g32 eM33 ?_
            refine j_aload_n 1 (pc' := 94) hC dX6_readHour_93 rfl rfl ?_
            refine j_getr' (o2 := 17) (pc' := 97) hC dX6_readHour_94 rfl fi_X6_62 gm0 rfl ?_
            refine j_iconst (v := 3) (pc' := 98) hC dX6_readHour_97 rfl rfl ?_
            refine j_aload_n 1 (pc' := 99) hC dX6_readHour_98 rfl rfl ?_
            refine j_geti' (pc' := 102) hC dX6_readHour_99 rfl fi_X6_129 gm0 ?_
            refine j_imul (pc' := 103) hC dX6_readHour_102 rfl ?_
            refine j_iconst (v := 1) (pc' := 104) hC dX6_readHour_103 rfl rfl ?_
            refine j_iadd (pc' := 105) hC dX6_readHour_104 rfl ?_
            refine j_iload_n 4 (pc' := 106) hC dX6_readHour_105 rfl rfl ?_
            obtain ⟨g34, h⟩ := jg_s h
            obtain ⟨M35, eM35, h⟩ := jlet_s h
            refine j_iast' (pc' := 107) hC dX6_readHour_106 rfl gm17 g34 eM35 ?_
            refine j_aload_n 1 (pc' := 108) hC dX6_readHour_107 rfl rfl ?_
            refine j_getr' (o2 := 17) (pc' := 111) hC dX6_readHour_108 rfl fi_X6_62 gm0 rfl ?_
            refine j_iconst (v := 3) (pc' := 112) hC dX6_readHour_111 rfl rfl ?_
            refine j_aload_n 1 (pc' := 113) hC dX6_readHour_112 rfl rfl ?_
            refine j_geti' (pc' := 116) hC dX6_readHour_113 rfl fi_X6_129 gm0 ?_
            refine j_imul (pc' := 117) hC dX6_readHour_116 rfl ?_
            refine j_iconst (v := 2) (pc' := 118) hC dX6_readHour_117 rfl rfl ?_
            refine j_iadd (pc' := 119) hC dX6_readHour_118 rfl ?_
            refine j_iload 0 (pc' := 121) hC dX6_readHour_119 rfl rfl ?_
            obtain ⟨g36, h⟩ := jg_s h
            obtain ⟨M37, eM37, h⟩ := jlet_s h
            refine j_iast' (pc' := 122) hC dX6_readHour_121 rfl gm17 g36 eM37 ?_
            refine j_aload_n 1 (pc' := 123) hC dX6_readHour_122 rfl rfl ?_
            refine j_dup (pc' := 124) hC dX6_readHour_123 rfl rfl ?_
            refine j_geti' (pc' := 127) hC dX6_readHour_124 rfl fi_X6_129 gm0 ?_
            refine j_iconst (v := 1) (pc' := 128) hC dX6_readHour_127 rfl rfl ?_
            refine j_iadd (pc' := 129) hC dX6_readHour_128 rfl ?_
            obtain ⟨M38, eM38, h⟩ := jlet_s h
            refine j_puti' (pc' := 132) hC dX6_readHour_129 rfl fp_X6_129 gm0 eM38 ?_
            refine j_iconst (v := 1) (pc' := 133) hC dX6_readHour_132 rfl rfl ?_
            obtain ⟨q0, q1⟩ := jinj2 h
            subst q0
            subst q1
            exact j_zret hC dX6_readHour_133 (by decide)
          · have h := jit_f c31 h
            refine j_iconst (v := 0) (pc' := 80) hC dX6_readHour_79 rfl rfl ?_
            obtain ⟨q0, q1⟩ := jinj2 h
            subst q0
            subst q1
            exact j_zret hC dX6_readHour_80 (by decide)
        refine j_if_ge (tgt := 64) (pc' := 60) hC dX6_readHour_57 (by decide) rfl (fun c27 => ?_) (fun c27 => ?_)
        · have hm26 := jit_t c27 hm26
          refine j_aload_n 1 (pc' := 65) hC dX6_readHour_64 rfl rfl ?_
          refine j_iload_n 2 (pc' := 66) hC dX6_readHour_65 rfl rfl ?_
          refine j_bipush (v := 48) (pc' := 68) hC dX6_readHour_66 rfl rfl ?_
          refine j_iconst (v := 3) (pc' := 69) hC dX6_readHour_68 rfl rfl ?_
          obtain ⟨r28, M29, hc30, hm26⟩ := jb2_s hm26
          refine j_callVi [.int a1, .int (48 : Int32), .int (3 : Int32)] (pc' := 72) hC dX6_readHour_69 rfl (t_X6_sign _ _ hc30) gm0 vcl6 cv_X6_132 ⟨⟨Nat.le_of_ble_eq_true rfl, Nat.le_of_ble_eq_true rfl⟩, rfl, Nat.le_of_ble_eq_true rfl⟩ rfl rfl ?_
          obtain ⟨q0, q1⟩ := jinj2 hm26
          subst q0
          subst q1
          exact j_sub [1, 2, 3, 0] rfl K25
        · have hm26 := jit_f c27 hm26
          refine j_iconst (v := -1) (pc' := 61) hC dX6_readHour_60 rfl rfl ?_
          refine j_goto (tgt := 72) (pc' := 0) hC dX6_readHour_61 (by decide) ?_
          obtain ⟨q0, q1⟩ := jinj2 hm26
          subst q0
          subst q1
          exact j_sub [1, 2, 3, 0] rfl K25
      refine j_if_ge (tgt := 46) (pc' := 42) hC dX6_readHour_39 (by decide) rfl (fun c15 => ?_) (fun c15 => ?_)
      · have hm14 := jit_t c15 hm14
        refine j_aload_n 1 (pc' := 47) hC dX6_readHour_46 rfl rfl ?_
        refine j_iload_n 2 (pc' := 48) hC dX6_readHour_47 rfl rfl ?_
        refine j_bipush (v := 48) (pc' := 50) hC dX6_readHour_48 rfl rfl ?_
        refine j_bipush (v := 10) (pc' := 52) hC dX6_readHour_50 rfl rfl ?_
        obtain ⟨r16, M17, hc18, hm14⟩ := jb2_s hm14
        refine j_callVi [.int a1, .int (48 : Int32), .int (10 : Int32)] (pc' := 55) hC dX6_readHour_52 rfl (t_X6_sign _ _ hc18) gm0 vcl6 cv_X6_132 ⟨⟨Nat.le_of_ble_eq_true rfl, Nat.le_of_ble_eq_true rfl⟩, rfl, Nat.le_of_ble_eq_true rfl⟩ rfl rfl ?_
        obtain ⟨q0, q1⟩ := jinj2 hm14
        subst q0
        subst q1
        exact j_sub [1, 2, 0] rfl K13
      · have hm14 := jit_f c15 hm14
        refine j_iconst (v := -1) (pc' := 43) hC dX6_readHour_42 rfl rfl ?_
        refine j_goto (tgt := 55) (pc' := 0) hC dX6_readHour_43 (by decide) ?_
        obtain ⟨q0, q1⟩ := jinj2 hm14
        subst q0
        subst q1
        exact j_sub [1, 2, 0] rfl K13
    · have h := jit_t c2 h
      refine j_iconst (v := 0) (pc' := 17) hC dX6_readHour_16 rfl rfl ?_
      obtain ⟨q0, q1⟩ := jinj2 h
      subst q0
      subst q1
      exact j_zret hC dX6_readHour_17 (by decide)
theorem t_X6_kindBy (l : Launch) (E : jE) {a1 : Int32} {M : jM} {r : Int32} (h : f_X6_kindBy a1 M = some r) : jCi l yX6_kindBy cX6_kindBy 1 (some .int) 0 0 E RM GM (fun _ _ => [.int a1]) M r M := by
  refine jCi_of (own := RX6) (by decide) rfl (fun _ _ => Nat.le_of_ble_eq_true rfl) ?_
  intro Γ hC
  show jJ Γ GM RM 0 [(0, .int a1)] [] M (jQi Γ RM GM r M)
  unfold f_X6_kindBy at h
  refine j_iload_n 0 (pc' := 1) hC dX6_kindBy_0 rfl rfl ?_
  refine j_bipush (v := 100) (pc' := 3) hC dX6_kindBy_1 rfl rfl ?_
  refine j_icmp_ne (tgt := 10) (pc' := 6) hC dX6_kindBy_3 (by decide) rfl (fun c1 => ?_) (fun c1 => ?_)
  · have h := jit_f c1 h
    refine j_iload_n 0 (pc' := 11) hC dX6_kindBy_10 rfl rfl ?_
    refine j_bipush (v := 109) (pc' := 13) hC dX6_kindBy_11 rfl rfl ?_
    refine j_icmp_ne (tgt := 20) (pc' := 16) hC dX6_kindBy_13 (by decide) rfl (fun c2 => ?_) (fun c2 => ?_)
    · have h := jit_f c2 h
      refine j_iload_n 0 (pc' := 21) hC dX6_kindBy_20 rfl rfl ?_
      refine j_bipush (v := 115) (pc' := 23) hC dX6_kindBy_21 rfl rfl ?_
      refine j_icmp_ne (tgt := 30) (pc' := 26) hC dX6_kindBy_23 (by decide) rfl (fun c3 => ?_) (fun c3 => ?_)
      · have h := jit_f c3 h
        refine j_iload_n 0 (pc' := 31) hC dX6_kindBy_30 rfl rfl ?_
        refine j_bipush (v := 108) (pc' := 33) hC dX6_kindBy_31 rfl rfl ?_
        refine j_icmp_ne (tgt := 40) (pc' := 36) hC dX6_kindBy_33 (by decide) rfl (fun c4 => ?_) (fun c4 => ?_)
        · have h := jit_f c4 h
          refine j_iload_n 0 (pc' := 41) hC dX6_kindBy_40 rfl rfl ?_
          refine j_bipush (v := 102) (pc' := 43) hC dX6_kindBy_41 rfl rfl ?_
          refine j_icmp_ne (tgt := 50) (pc' := 46) hC dX6_kindBy_43 (by decide) rfl (fun c5 => ?_) (fun c5 => ?_)
          · have h := jit_f c5 h
            refine j_iload_n 0 (pc' := 51) hC dX6_kindBy_50 rfl rfl ?_
            refine j_bipush (v := 112) (pc' := 53) hC dX6_kindBy_51 rfl rfl ?_
            refine j_icmp_ne (tgt := 60) (pc' := 56) hC dX6_kindBy_53 (by decide) rfl (fun c6 => ?_) (fun c6 => ?_)
            · have h := jit_f c6 h
              refine j_iconst (v := -1) (pc' := 61) hC dX6_kindBy_60 rfl rfl ?_
              have q8 := jinj1 h
              subst q8
              exact j_iret hC dX6_kindBy_61
            · have h := jit_t c6 h
              refine j_iconst (v := 5) (pc' := 57) hC dX6_kindBy_56 rfl rfl ?_
              refine j_goto (tgt := 61) (pc' := 0) hC dX6_kindBy_57 (by decide) ?_
              have q8 := jinj1 h
              subst q8
              exact j_iret hC dX6_kindBy_61
          · have h := jit_t c5 h
            refine j_iconst (v := 4) (pc' := 47) hC dX6_kindBy_46 rfl rfl ?_
            refine j_goto (tgt := 61) (pc' := 0) hC dX6_kindBy_47 (by decide) ?_
            have q8 := jinj1 h
            subst q8
            exact j_iret hC dX6_kindBy_61
        · have h := jit_t c4 h
          refine j_iconst (v := 3) (pc' := 37) hC dX6_kindBy_36 rfl rfl ?_
          refine j_goto (tgt := 61) (pc' := 0) hC dX6_kindBy_37 (by decide) ?_
          have q8 := jinj1 h
          subst q8
          exact j_iret hC dX6_kindBy_61
      · have h := jit_t c3 h
        refine j_iconst (v := 2) (pc' := 27) hC dX6_kindBy_26 rfl rfl ?_
        refine j_goto (tgt := 61) (pc' := 0) hC dX6_kindBy_27 (by decide) ?_
        have q8 := jinj1 h
        subst q8
        exact j_iret hC dX6_kindBy_61
    · have h := jit_t c2 h
      refine j_iconst (v := 1) (pc' := 17) hC dX6_kindBy_16 rfl rfl ?_
      refine j_goto (tgt := 61) (pc' := 0) hC dX6_kindBy_17 (by decide) ?_
      have q8 := jinj1 h
      subst q8
      exact j_iret hC dX6_kindBy_61
  · have h := jit_t c1 h
    refine j_iconst (v := 0) (pc' := 7) hC dX6_kindBy_6 rfl rfl ?_
    refine j_goto (tgt := 61) (pc' := 0) hC dX6_kindBy_7 (by decide) ?_
    have q8 := jinj1 h
    subst q8
    exact j_iret hC dX6_kindBy_61
theorem lp_X6_readHouse_L20_b {Γ : jG} (hC : jOK Γ cX6_readHouse 5 RX6 (some .boolean) { frames := 4, cells := 0, slots := 0, locals := 94 }) {Q : State → Prop} (rec : Int32 → jM → Option ((Int32 × jM) ⊕ (jM))) (ih : ∀ (x1 : Int32) (M : jM) (res : (Int32 × jM) ⊕ (jM)), rec x1 M = some res → (∀ (r : Int32) (M' : jM), res = .inl (r, M') → Q = jQi Γ RM GM r M') → (∀ (Me : jM), res = .inr Me → jJ Γ GM RM 88 [(0, .ref (jad Γ 0)), (1, .int x1)] [] Me Q) → jJ Γ GM RM 20 [(0, .ref (jad Γ 0)), (1, .int x1)] [] M Q) (x1 : Int32) (M : jM) (res : (Int32 × jM) ⊕ (jM)) (h : f_X6_readHouse_L20_b rec x1 M = some res) (hQ : ∀ (r : Int32) (M' : jM), res = .inl (r, M') → Q = jQi Γ RM GM r M') (hK : ∀ (Me : jM), res = .inr Me → jJ Γ GM RM 88 [(0, .ref (jad Γ 0)), (1, .int x1)] [] Me Q) : jJ Γ GM RM 20 [(0, .ref (jad Γ 0)), (1, .int x1)] [] M Q := by
  unfold f_X6_readHouse_L20_b at h
  refine j_aload_n 0 (pc' := 21) hC dX6_readHouse_20 rfl rfl ?_
  refine j_iload_n 1 (pc' := 22) hC dX6_readHouse_21 rfl rfl ?_
  obtain ⟨r1, hc2, h⟩ := jb1_s h
  refine j_callVi [.int x1] (pc' := 25) hC dX6_readHouse_22 rfl (t_X6_isEnd _ _ hc2) gm0 vcl6 cv_X6_120 ⟨⟨Nat.le_of_ble_eq_true rfl, Nat.le_of_ble_eq_true rfl⟩, rfl, Nat.le_of_ble_eq_true rfl⟩ rfl rfl ?_
  refine j_if_ne (tgt := 88) (pc' := 28) hC dX6_readHouse_25 (by decide) rfl (fun c3 => ?_) (fun c3 => ?_)
  · have h := jit_f c3 h
    have q8 := jinj1 h
    subst q8
    refine j_sub [0, 1] rfl ?_
    exact hK _ rfl
  · have h := jit_t c3 h
    refine j_aload_n 0 (pc' := 29) hC dX6_readHouse_28 rfl rfl ?_
    refine j_iload_n 1 (pc' := 30) hC dX6_readHouse_29 rfl rfl ?_
    obtain ⟨r4, hc5, h⟩ := jb1_s h
    refine j_callVi [.int x1] (pc' := 33) hC dX6_readHouse_30 rfl (t_X6_byteAt _ _ hc5) gm0 vcl6 cv_X6_123 ⟨⟨Nat.le_of_ble_eq_true rfl, Nat.le_of_ble_eq_true rfl⟩, rfl, Nat.le_of_ble_eq_true rfl⟩ rfl rfl ?_
    refine j_istore_n (pc' := 34) hC dX6_readHouse_33 rfl rfl (by decide) rfl ?_
    refine j_iload_n 0 (pc' := 35) hC dX6_readHouse_34 rfl rfl ?_
    obtain ⟨r6, hc7, h⟩ := jb1_s h
    refine j_callSi [.int r4] (pc' := 38) hC dX6_readHouse_35 rfl (t_X6_kindBy _ _ hc7) cs_X6_144 ⟨⟨Nat.le_of_ble_eq_true rfl, Nat.le_of_ble_eq_true rfl⟩, rfl, Nat.le_of_ble_eq_true rfl⟩ rfl rfl ?_
    refine j_istore_n (pc' := 39) hC dX6_readHouse_38 rfl rfl (by decide) rfl ?_
    refine j_iload_n 0 (pc' := 40) hC dX6_readHouse_39 rfl rfl ?_
    obtain ⟨v17, M18, hm20, h⟩ := jb2_s h
    have K19 : jJ Γ GM RM 71 [(0, .ref (jad Γ 0)), (1, .int x1), (2, .int r4), (3, .int r6)] [.int v17] M18 Q := by
      refine j_istore (pc' := 73) hC dX6_readHouse_71 rfl rfl (by decide) rfl ?_
      refine j_iload 0 (pc' := 75) hC dX6_readHouse_73 rfl rfl ?_
      refine j_if_ne (tgt := 80) (pc' := 78) hC dX6_readHouse_75 (by decide) rfl (fun c30 => ?_) (fun c30 => ?_)
      · have h := jit_f c30 h
        refine j_aload_n 1 (pc' := 81) hC dX6_readHouse_80 rfl rfl ?_
        refine j_iload_n 2 (pc' := 82) hC dX6_readHouse_81 rfl rfl ?_
        obtain ⟨M31, hc32, h⟩ := jb1_s h
        refine j_callVv [.int x1] (pc' := 85) hC dX6_readHouse_82 rfl (t_X6_skipBlanks _ _ hc32) gm0 vcl6 cv_X6_140 ⟨⟨Nat.le_of_ble_eq_true rfl, Nat.le_of_ble_eq_true rfl⟩, rfl, Nat.le_of_ble_eq_true rfl⟩ rfl rfl ?_
        refine j_goto (tgt := 20) (pc' := 0) hC dX6_readHouse_85 (by decide) ?_
        refine j_sub [1, 2] rfl ?_
        exact ih _ _ res h hQ hK
      · have h := jit_t c30 h
        refine j_iconst (v := 0) (pc' := 79) hC dX6_readHouse_78 rfl rfl ?_
        have q8 := jinj1 h
        subst q8
        rw [hQ _ _ rfl]
        exact j_zret hC dX6_readHouse_79 (by decide)
    refine j_if_lt (tgt := 52) (pc' := 43) hC dX6_readHouse_40 (by decide) rfl (fun c21 => ?_) (fun c21 => ?_)
    · have hm20 := jit_t c21 hm20
      refine j_iload_n 1 (pc' := 53) hC dX6_readHouse_52 rfl rfl ?_
      refine j_bipush (v := 104) (pc' := 55) hC dX6_readHouse_53 rfl rfl ?_
      refine j_icmp_ne (tgt := 70) (pc' := 58) hC dX6_readHouse_55 (by decide) rfl (fun c22 => ?_) (fun c22 => ?_)
      · have hm20 := jit_f c22 hm20
        refine j_iconst (v := 0) (pc' := 71) hC dX6_readHouse_70 rfl rfl ?_
        obtain ⟨q0, q1⟩ := jinj2 hm20
        subst q0
        subst q1
        exact j_sub [2, 3, 1, 0] rfl K19
      · have hm20 := jit_t c22 hm20
        refine j_aload_n 2 (pc' := 59) hC dX6_readHouse_58 rfl rfl ?_
        refine j_iload_n 3 (pc' := 60) hC dX6_readHouse_59 rfl rfl ?_
        obtain ⟨r23, M24, hc25, hm20⟩ := jb2_s hm20
        refine j_callVi [.int x1] (pc' := 63) hC dX6_readHouse_60 rfl (t_X6_readHour _ _ hc25) gm0 vcl6 cv_X6_150 ⟨⟨Nat.le_of_ble_eq_true rfl, Nat.le_of_ble_eq_true rfl⟩, rfl, Nat.le_of_ble_eq_true rfl⟩ rfl rfl ?_
        refine j_if_eq (tgt := 70) (pc' := 66) hC dX6_readHouse_63 (by decide) rfl (fun c26 => ?_) (fun c26 => ?_)
        · have hm20 := jit_t c26 hm20
          refine j_iconst (v := 0) (pc' := 71) hC dX6_readHouse_70 rfl rfl ?_
          obtain ⟨q0, q1⟩ := jinj2 hm20
          subst q0
          subst q1
          exact j_sub [2, 3, 1, 0] rfl K19
        · have hm20 := jit_f c26 hm20
          refine j_iconst (v := 1) (pc' := 67) hC dX6_readHouse_66 rfl rfl ?_
          refine j_goto (tgt := 71) (pc' := 0) hC dX6_readHouse_67 (by decide) ?_
          obtain ⟨q0, q1⟩ := jinj2 hm20
          subst q0
          subst q1
          exact j_sub [2, 3, 1, 0] rfl K19
    · have hm20 := jit_f c21 hm20
      refine j_aload_n 2 (pc' := 44) hC dX6_readHouse_43 rfl rfl ?_
      refine j_iload_n 3 (pc' := 45) hC dX6_readHouse_44 rfl rfl ?_
      refine j_iload_n 0 (pc' := 46) hC dX6_readHouse_45 rfl rfl ?_
      obtain ⟨r27, M28, hc29, hm20⟩ := jb2_s hm20
      refine j_callVi [.int x1, .int r6] (pc' := 49) hC dX6_readHouse_46 rfl (t_X6_readDeed _ _ hc29) gm0 vcl6 cv_X6_147 ⟨⟨Nat.le_of_ble_eq_true rfl, Nat.le_of_ble_eq_true rfl⟩, rfl, Nat.le_of_ble_eq_true rfl⟩ rfl rfl ?_
      refine j_goto (tgt := 71) (pc' := 0) hC dX6_readHouse_49 (by decide) ?_
      obtain ⟨q0, q1⟩ := jinj2 hm20
      subst q0
      subst q1
      exact j_sub [2, 3, 1, 0] rfl K19
theorem lp_X6_readHouse_L20 {Γ : jG} (hC : jOK Γ cX6_readHouse 5 RX6 (some .boolean) { frames := 4, cells := 0, slots := 0, locals := 94 }) {Q : State → Prop} : ∀ (n : Nat) (x1 : Int32) (M : jM) (res : (Int32 × jM) ⊕ (jM)), f_X6_readHouse_L20 n x1 M = some res → (∀ (r : Int32) (M' : jM), res = .inl (r, M') → Q = jQi Γ RM GM r M') → (∀ (Me : jM), res = .inr Me → jJ Γ GM RM 88 [(0, .ref (jad Γ 0)), (1, .int x1)] [] Me Q) → jJ Γ GM RM 20 [(0, .ref (jad Γ 0)), (1, .int x1)] [] M Q := by
  intro n
  induction n with
  | zero =>
    intro x1 M res h hQ hK
    exact jno h
  | succ n ih =>
    intro x1 M res h hQ hK
    exact lp_X6_readHouse_L20_b hC (f_X6_readHouse_L20 n) ih x1 M res h hQ hK
theorem t_X6_readHouse (l : Launch) (E : jE) {a1 : Int32} {M : jM} {r : Int32} {M' : jM} (h : f_X6_readHouse a1 M = some (r, M')) : jCi l yX6_readHouse cX6_readHouse 5 (some .boolean) 4 94 E RM GM (fun a _ => [.ref (a 0), .int a1]) M r M' := by
  refine jCi_of (own := RX6) (by decide) rfl (fun _ _ => Nat.le_of_ble_eq_true rfl) ?_
  intro Γ hC
  show jJ Γ GM RM 0 [(0, .ref (jad Γ 0)), (1, .int a1)] [] M (jQi Γ RM GM r M')
  unfold f_X6_readHouse at h
  refine j_aload_n 0 (pc' := 1) hC dX6_readHouse_0 rfl rfl ?_
  refine j_iconst (v := 0) (pc' := 2) hC dX6_readHouse_1 rfl rfl ?_
  obtain ⟨M1, eM1, h⟩ := jlet_s h
  refine j_puti' (pc' := 5) hC dX6_readHouse_2 rfl fp_X6_117 gm0 eM1 ?_
  refine j_aload_n 0 (pc' := 6) hC dX6_readHouse_5 rfl rfl ?_
  refine j_iconst (v := 0) (pc' := 7) hC dX6_readHouse_6 rfl rfl ?_
  obtain ⟨M2, eM2, h⟩ := jlet_s h
  refine j_puti' (pc' := 10) hC dX6_readHouse_7 rfl fp_X6_126 gm0 eM2 ?_
  refine j_aload_n 0 (pc' := 11) hC dX6_readHouse_10 rfl rfl ?_
  refine j_iconst (v := 0) (pc' := 12) hC dX6_readHouse_11 rfl rfl ?_
  obtain ⟨M3, eM3, h⟩ := jlet_s h
  refine j_puti' (pc' := 15) hC dX6_readHouse_12 rfl fp_X6_129 gm0 eM3 ?_
  refine j_aload_n 0 (pc' := 16) hC dX6_readHouse_15 rfl rfl ?_
  refine j_iload_n 1 (pc' := 17) hC dX6_readHouse_16 rfl rfl ?_
  obtain ⟨M4, hc5, h⟩ := jb1_s h
  refine j_callVv [.int a1] (pc' := 20) hC dX6_readHouse_17 rfl (t_X6_skipBlanks _ _ hc5) gm0 vcl6 cv_X6_140 ⟨⟨Nat.le_of_ble_eq_true rfl, Nat.le_of_ble_eq_true rfl⟩, rfl, Nat.le_of_ble_eq_true rfl⟩ rfl rfl ?_
  refine j_sub [0, 1] rfl ?_
  rcases jr1_s h with hm7 | ⟨M6, hm7, h⟩
  · exact lp_X6_readHouse_L20 hC  jfu a1 M4 _ hm7 (fun _ _ e => by cases e; rfl) (fun _ e => by cases e)
  · refine lp_X6_readHouse_L20 hC  jfu a1 M4 _ hm7 (fun _ _ e => by cases e) (fun _ e => ?_)
    cases e
    refine j_aload_n 0 (pc' := 89) hC dX6_readHouse_88 rfl rfl ?_
    refine j_geti' (pc' := 92) hC dX6_readHouse_89 rfl fi_X6_126 gm0 ?_
    refine j_if_le (tgt := 99) (pc' := 95) hC dX6_readHouse_92 (by decide) rfl (fun c8 => ?_) (fun c8 => ?_)
    · have h := jit_t c8 h
      refine j_iconst (v := 0) (pc' := 100) hC dX6_readHouse_99 rfl rfl ?_
      obtain ⟨q0, q1⟩ := jinj2 h
      subst q0
      subst q1
      exact j_zret hC dX6_readHouse_100 (by decide)
    · have h := jit_f c8 h
      refine j_iconst (v := 1) (pc' := 96) hC dX6_readHouse_95 rfl rfl ?_
      refine j_goto (tgt := 100) (pc' := 0) hC dX6_readHouse_96 (by decide) ?_
      obtain ⟨q0, q1⟩ := jinj2 h
      subst q0
      subst q1
      exact j_zret hC dX6_readHouse_100 (by decide)
theorem t_X6_fault (l : Launch) (E : jE) {a1 : Int32} {M : jM} {r : Int32} {M' : jM} (h : f_X6_fault a1 M = some (r, M')) : jCi l yX6_fault cX6_fault 2 (some .int) 5 118 E RM GM (fun a _ => [.ref (a 0), .int a1]) M r M' := by
  refine jCi_of (own := RX6) (by decide) rfl (fun _ _ => Nat.le_of_ble_eq_true rfl) ?_
  intro Γ hC
  show jJ Γ GM RM 0 [(0, .ref (jad Γ 0)), (1, .int a1)] [] M (jQi Γ RM GM r M')
  unfold f_X6_fault at h
  refine j_iload_n 1 (pc' := 1) hC dX6_fault_0 rfl rfl ?_
  obtain ⟨r1, hc2, h⟩ := jb1_s h
  refine j_callSi [.int a1] (pc' := 4) hC dX6_fault_1 rfl (t_X6_isText _ _ hc2) cs_X6_114 ⟨⟨Nat.le_of_ble_eq_true rfl, Nat.le_of_ble_eq_true rfl⟩, rfl, Nat.le_of_ble_eq_true rfl⟩ rfl rfl ?_
  refine j_if_ne (tgt := 9) (pc' := 7) hC dX6_fault_4 (by decide) rfl (fun c3 => ?_) (fun c3 => ?_)
  · have h := jit_f c3 h
    refine j_aload_n 0 (pc' := 10) hC dX6_fault_9 rfl rfl ?_
    refine j_getr' (o2 := 3) (pc' := 13) hC dX6_fault_10 rfl fi_X6_16 gm0 rfl ?_
    refine j_iload_n 1 (pc' := 14) hC dX6_fault_13 rfl rfl ?_
    obtain ⟨g4, h⟩ := jg_s h
    refine j_iald (pc' := 15) hC dX6_fault_14 rfl gm3 g4 ?_
    refine j_if_ge (tgt := 24) (pc' := 18) hC dX6_fault_15 (by decide) rfl (fun c5 => ?_) (fun c5 => ?_)
    · have h := jit_t c5 h
      refine j_aload_n 0 (pc' := 25) hC dX6_fault_24 rfl rfl ?_
      refine j_iload_n 1 (pc' := 26) hC dX6_fault_25 rfl rfl ?_
      obtain ⟨r6, M7, hc8, h⟩ := jb2_s h
      refine j_callVi [.int a1] (pc' := 29) hC dX6_fault_26 rfl (t_X6_readHouse _ _ hc8) gm0 vcl6 cv_X6_153 ⟨⟨Nat.le_of_ble_eq_true rfl, Nat.le_of_ble_eq_true rfl⟩, rfl, Nat.le_of_ble_eq_true rfl⟩ rfl rfl ?_
      refine j_if_eq (tgt := 37) (pc' := 32) hC dX6_fault_29 (by decide) rfl (fun c9 => ?_) (fun c9 => ?_)
      · have h := jit_t c9 h
        refine j_aload_n 0 (pc' := 38) hC dX6_fault_37 rfl rfl ?_
        refine j_geti' (pc' := 41) hC dX6_fault_38 rfl fi_X6_117 gm0 ?_
        obtain ⟨q0, q1⟩ := jinj2 h
        subst q0
        subst q1
        exact j_iret hC dX6_fault_41
      · have h := jit_f c9 h
        refine j_bipush (v := -9) (pc' := 34) hC dX6_fault_32 rfl rfl ?_
        refine j_goto (tgt := 41) (pc' := 0) hC dX6_fault_34 (by decide) ?_
        obtain ⟨q0, q1⟩ := jinj2 h
        subst q0
        subst q1
        exact j_iret hC dX6_fault_41
    · have h := jit_f c5 h
      refine j_aload_n 0 (pc' := 19) hC dX6_fault_18 rfl rfl ?_
      refine j_iconst (v := 1) (pc' := 20) hC dX6_fault_19 rfl rfl ?_
      obtain ⟨r10, M11, hc12, h⟩ := jb2_s h
      refine j_callVi [.int (1 : Int32)] (pc' := 23) hC dX6_fault_20 rfl (t_X6_find _ _ hc12) gm0 vcl6 cv_X6_103 ⟨⟨Nat.le_of_ble_eq_true rfl, Nat.le_of_ble_eq_true rfl⟩, rfl, Nat.le_of_ble_eq_true rfl⟩ rfl rfl ?_
      obtain ⟨q0, q1⟩ := jinj2 h
      subst q0
      subst q1
      exact j_iret hC dX6_fault_23
  · have h := jit_t c3 h
    refine j_iconst (v := -1) (pc' := 8) hC dX6_fault_7 rfl rfl ?_
    obtain ⟨q0, q1⟩ := jinj2 h
    subst q0
    subst q1
    exact j_iret hC dX6_fault_8
theorem lp_X6_house_L53_b {Γ : jG} (hC : jOK Γ cX6_house 3 RX6 (some .int) { frames := 5, cells := 0, slots := 0, locals := 118 }) {Q : State → Prop} (x1 : Int32) (rec : Int32 → jM → Option (Int32 × jM)) (ih : ∀ (x2 : Int32) (M : jM) (e2 : Int32) (Me : jM), rec x2 M = some (e2, Me) → jJ Γ GM RM 113 [(0, .ref (jad Γ 0)), (1, .int x1), (2, .int e2)] [] Me Q → jJ Γ GM RM 53 [(0, .ref (jad Γ 0)), (1, .int x1), (2, .int x2)] [] M Q) (x2 : Int32) (M : jM) (e2 : Int32) (Me : jM) (h : f_X6_house_L53_b rec x2 M = some (e2, Me)) (hK : jJ Γ GM RM 113 [(0, .ref (jad Γ 0)), (1, .int x1), (2, .int e2)] [] Me Q) : jJ Γ GM RM 53 [(0, .ref (jad Γ 0)), (1, .int x1), (2, .int x2)] [] M Q := by
  unfold f_X6_house_L53_b at h
  refine j_iload_n 2 (pc' := 54) hC dX6_house_53 rfl rfl ?_
  refine j_aload_n 0 (pc' := 55) hC dX6_house_54 rfl rfl ?_
  refine j_geti' (pc' := 58) hC dX6_house_55 rfl fi_X6_156 gm0 ?_
  refine j_icmp_ge (tgt := 113) (pc' := 61) hC dX6_house_58 (by decide) rfl (fun c1 => ?_) (fun c1 => ?_)
  · have h := jit_t c1 h
    obtain ⟨q0, q1⟩ := jinj2 h
    subst q0
    subst q1
    refine j_sub [0, 1, 2] rfl ?_
    exact hK
  · have h := jit_f c1 h
    refine j_aload_n 0 (pc' := 62) hC dX6_house_61 rfl rfl ?_
    refine j_getr' (o2 := 5) (pc' := 65) hC dX6_house_62 rfl fi_X6_22 gm0 rfl ?_
    refine j_iload_n 2 (pc' := 66) hC dX6_house_65 rfl rfl ?_
    refine j_aload_n 0 (pc' := 67) hC dX6_house_66 rfl rfl ?_
    refine j_getr' (o2 := 16) (pc' := 70) hC dX6_house_67 rfl fi_X6_59 gm0 rfl ?_
    refine j_iconst (v := 3) (pc' := 71) hC dX6_house_70 rfl rfl ?_
    refine j_iload_n 2 (pc' := 72) hC dX6_house_71 rfl rfl ?_
    refine j_imul (pc' := 73) hC dX6_house_72 rfl ?_
    obtain ⟨g2, h⟩ := jg_s h
    refine j_iald (pc' := 74) hC dX6_house_73 rfl gm16 g2 ?_
    obtain ⟨g3, h⟩ := jg_s h
    obtain ⟨M4, eM4, h⟩ := jlet_s h
    refine j_iast' (pc' := 75) hC dX6_house_74 rfl gm5 g3 eM4 ?_
    refine j_aload_n 0 (pc' := 76) hC dX6_house_75 rfl rfl ?_
    refine j_getr' (o2 := 6) (pc' := 79) hC dX6_house_76 rfl fi_X6_25 gm0 rfl ?_
    refine j_iload_n 2 (pc' := 80) hC dX6_house_79 rfl rfl ?_
    refine j_aload_n 0 (pc' := 81) hC dX6_house_80 rfl rfl ?_
    refine j_getr' (o2 := 16) (pc' := 84) hC dX6_house_81 rfl fi_X6_59 gm0 rfl ?_
    refine j_iconst (v := 3) (pc' := 85) hC dX6_house_84 rfl rfl ?_
    refine j_iload_n 2 (pc' := 86) hC dX6_house_85 rfl rfl ?_
    refine j_imul (pc' := 87) hC dX6_house_86 rfl ?_
    refine j_iconst (v := 1) (pc' := 88) hC dX6_house_87 rfl rfl ?_
    refine j_iadd (pc' := 89) hC dX6_house_88 rfl ?_
    obtain ⟨g5, h⟩ := jg_s h
    refine j_iald (pc' := 90) hC dX6_house_89 rfl gm16 g5 ?_
    obtain ⟨g6, h⟩ := jg_s h
    obtain ⟨M7, eM7, h⟩ := jlet_s h
    refine j_iast' (pc' := 91) hC dX6_house_90 rfl gm6 g6 eM7 ?_
    refine j_aload_n 0 (pc' := 92) hC dX6_house_91 rfl rfl ?_
    refine j_getr' (o2 := 7) (pc' := 95) hC dX6_house_92 rfl fi_X6_28 gm0 rfl ?_
    refine j_iload_n 2 (pc' := 96) hC dX6_house_95 rfl rfl ?_
    refine j_aload_n 0 (pc' := 97) hC dX6_house_96 rfl rfl ?_
    refine j_getr' (o2 := 16) (pc' := 100) hC dX6_house_97 rfl fi_X6_59 gm0 rfl ?_
    refine j_iconst (v := 3) (pc' := 101) hC dX6_house_100 rfl rfl ?_
    refine j_iload_n 2 (pc' := 102) hC dX6_house_101 rfl rfl ?_
    refine j_imul (pc' := 103) hC dX6_house_102 rfl ?_
    refine j_iconst (v := 2) (pc' := 104) hC dX6_house_103 rfl rfl ?_
    refine j_iadd (pc' := 105) hC dX6_house_104 rfl ?_
    obtain ⟨g8, h⟩ := jg_s h
    refine j_iald (pc' := 106) hC dX6_house_105 rfl gm16 g8 ?_
    obtain ⟨g9, h⟩ := jg_s h
    obtain ⟨M10, eM10, h⟩ := jlet_s h
    refine j_iast' (pc' := 107) hC dX6_house_106 rfl gm7 g9 eM10 ?_
    obtain ⟨v11, ev11, h⟩ := jlet_s h
    refine j_iinc' 2 (c := 1) (pc' := 110) hC dX6_house_107 rfl rfl rfl ev11 (by decide) rfl ?_
    refine j_goto (tgt := 53) (pc' := 0) hC dX6_house_110 (by decide) ?_
    refine j_sub [1, 2, 0] rfl ?_
    exact ih _ _ _ _ h hK
theorem lp_X6_house_L53 {Γ : jG} (hC : jOK Γ cX6_house 3 RX6 (some .int) { frames := 5, cells := 0, slots := 0, locals := 118 }) {Q : State → Prop} (x1 : Int32) : ∀ (n : Nat) (x2 : Int32) (M : jM) (e2 : Int32) (Me : jM), f_X6_house_L53 n x2 M = some (e2, Me) → jJ Γ GM RM 113 [(0, .ref (jad Γ 0)), (1, .int x1), (2, .int e2)] [] Me Q → jJ Γ GM RM 53 [(0, .ref (jad Γ 0)), (1, .int x1), (2, .int x2)] [] M Q := by
  intro n
  induction n with
  | zero =>
    intro x2 M e2 Me h hK
    exact jno h
  | succ n ih =>
    intro x2 M e2 Me h hK
    exact lp_X6_house_L53_b hC x1 (f_X6_house_L53 n) ih x2 M e2 Me h hK
theorem lp_X6_house_L115_b {Γ : jG} (hC : jOK Γ cX6_house 3 RX6 (some .int) { frames := 5, cells := 0, slots := 0, locals := 118 }) {Q : State → Prop} (x1 : Int32) (rec : Int32 → jM → Option (Int32 × jM)) (ih : ∀ (x2 : Int32) (M : jM) (e2 : Int32) (Me : jM), rec x2 M = some (e2, Me) → jJ Γ GM RM 175 [(0, .ref (jad Γ 0)), (1, .int x1), (2, .int e2)] [] Me Q → jJ Γ GM RM 115 [(0, .ref (jad Γ 0)), (1, .int x1), (2, .int x2)] [] M Q) (x2 : Int32) (M : jM) (e2 : Int32) (Me : jM) (h : f_X6_house_L115_b rec x2 M = some (e2, Me)) (hK : jJ Γ GM RM 175 [(0, .ref (jad Γ 0)), (1, .int x1), (2, .int e2)] [] Me Q) : jJ Γ GM RM 115 [(0, .ref (jad Γ 0)), (1, .int x1), (2, .int x2)] [] M Q := by
  unfold f_X6_house_L115_b at h
  refine j_iload_n 2 (pc' := 116) hC dX6_house_115 rfl rfl ?_
  refine j_aload_n 0 (pc' := 117) hC dX6_house_116 rfl rfl ?_
  refine j_geti' (pc' := 120) hC dX6_house_117 rfl fi_X6_159 gm0 ?_
  refine j_icmp_ge (tgt := 175) (pc' := 123) hC dX6_house_120 (by decide) rfl (fun c1 => ?_) (fun c1 => ?_)
  · have h := jit_t c1 h
    obtain ⟨q0, q1⟩ := jinj2 h
    subst q0
    subst q1
    refine j_sub [0, 1, 2] rfl ?_
    exact hK
  · have h := jit_f c1 h
    refine j_aload_n 0 (pc' := 124) hC dX6_house_123 rfl rfl ?_
    refine j_getr' (o2 := 8) (pc' := 127) hC dX6_house_124 rfl fi_X6_31 gm0 rfl ?_
    refine j_iload_n 2 (pc' := 128) hC dX6_house_127 rfl rfl ?_
    refine j_aload_n 0 (pc' := 129) hC dX6_house_128 rfl rfl ?_
    refine j_getr' (o2 := 17) (pc' := 132) hC dX6_house_129 rfl fi_X6_62 gm0 rfl ?_
    refine j_iconst (v := 3) (pc' := 133) hC dX6_house_132 rfl rfl ?_
    refine j_iload_n 2 (pc' := 134) hC dX6_house_133 rfl rfl ?_
    refine j_imul (pc' := 135) hC dX6_house_134 rfl ?_
    obtain ⟨g2, h⟩ := jg_s h
    refine j_iald (pc' := 136) hC dX6_house_135 rfl gm17 g2 ?_
    obtain ⟨g3, h⟩ := jg_s h
    obtain ⟨M4, eM4, h⟩ := jlet_s h
    refine j_iast' (pc' := 137) hC dX6_house_136 rfl gm8 g3 eM4 ?_
    refine j_aload_n 0 (pc' := 138) hC dX6_house_137 rfl rfl ?_
    refine j_getr' (o2 := 9) (pc' := 141) hC dX6_house_138 rfl fi_X6_34 gm0 rfl ?_
    refine j_iload_n 2 (pc' := 142) hC dX6_house_141 rfl rfl ?_
    refine j_aload_n 0 (pc' := 143) hC dX6_house_142 rfl rfl ?_
    refine j_getr' (o2 := 17) (pc' := 146) hC dX6_house_143 rfl fi_X6_62 gm0 rfl ?_
    refine j_iconst (v := 3) (pc' := 147) hC dX6_house_146 rfl rfl ?_
    refine j_iload_n 2 (pc' := 148) hC dX6_house_147 rfl rfl ?_
    refine j_imul (pc' := 149) hC dX6_house_148 rfl ?_
    refine j_iconst (v := 1) (pc' := 150) hC dX6_house_149 rfl rfl ?_
    refine j_iadd (pc' := 151) hC dX6_house_150 rfl ?_
    obtain ⟨g5, h⟩ := jg_s h
    refine j_iald (pc' := 152) hC dX6_house_151 rfl gm17 g5 ?_
    obtain ⟨g6, h⟩ := jg_s h
    obtain ⟨M7, eM7, h⟩ := jlet_s h
    refine j_iast' (pc' := 153) hC dX6_house_152 rfl gm9 g6 eM7 ?_
    refine j_aload_n 0 (pc' := 154) hC dX6_house_153 rfl rfl ?_
    refine j_getr' (o2 := 10) (pc' := 157) hC dX6_house_154 rfl fi_X6_37 gm0 rfl ?_
    refine j_iload_n 2 (pc' := 158) hC dX6_house_157 rfl rfl ?_
    refine j_aload_n 0 (pc' := 159) hC dX6_house_158 rfl rfl ?_
    refine j_getr' (o2 := 17) (pc' := 162) hC dX6_house_159 rfl fi_X6_62 gm0 rfl ?_
    refine j_iconst (v := 3) (pc' := 163) hC dX6_house_162 rfl rfl ?_
    refine j_iload_n 2 (pc' := 164) hC dX6_house_163 rfl rfl ?_
    refine j_imul (pc' := 165) hC dX6_house_164 rfl ?_
    refine j_iconst (v := 2) (pc' := 166) hC dX6_house_165 rfl rfl ?_
    refine j_iadd (pc' := 167) hC dX6_house_166 rfl ?_
    obtain ⟨g8, h⟩ := jg_s h
    refine j_iald (pc' := 168) hC dX6_house_167 rfl gm17 g8 ?_
    obtain ⟨g9, h⟩ := jg_s h
    obtain ⟨M10, eM10, h⟩ := jlet_s h
    refine j_iast' (pc' := 169) hC dX6_house_168 rfl gm10 g9 eM10 ?_
    obtain ⟨v11, ev11, h⟩ := jlet_s h
    refine j_iinc' 2 (c := 1) (pc' := 172) hC dX6_house_169 rfl rfl rfl ev11 (by decide) rfl ?_
    refine j_goto (tgt := 115) (pc' := 0) hC dX6_house_172 (by decide) ?_
    refine j_sub [1, 2, 0] rfl ?_
    exact ih _ _ _ _ h hK
theorem lp_X6_house_L115 {Γ : jG} (hC : jOK Γ cX6_house 3 RX6 (some .int) { frames := 5, cells := 0, slots := 0, locals := 118 }) {Q : State → Prop} (x1 : Int32) : ∀ (n : Nat) (x2 : Int32) (M : jM) (e2 : Int32) (Me : jM), f_X6_house_L115 n x2 M = some (e2, Me) → jJ Γ GM RM 175 [(0, .ref (jad Γ 0)), (1, .int x1), (2, .int e2)] [] Me Q → jJ Γ GM RM 115 [(0, .ref (jad Γ 0)), (1, .int x1), (2, .int x2)] [] M Q := by
  intro n
  induction n with
  | zero =>
    intro x2 M e2 Me h hK
    exact jno h
  | succ n ih =>
    intro x2 M e2 Me h hK
    exact lp_X6_house_L115_b hC x1 (f_X6_house_L115 n) ih x2 M e2 Me h hK
theorem lp_X6_house_L181_b {Γ : jG} (hC : jOK Γ cX6_house 3 RX6 (some .int) { frames := 5, cells := 0, slots := 0, locals := 118 }) {Q : State → Prop} (x1 : Int32) (rec : Int32 → jM → Option (Int32 × jM)) (ih : ∀ (x2 : Int32) (M : jM) (e2 : Int32) (Me : jM), rec x2 M = some (e2, Me) → jJ Γ GM RM 210 [(0, .ref (jad Γ 0)), (1, .int x1), (2, .int e2)] [] Me Q → jJ Γ GM RM 181 [(0, .ref (jad Γ 0)), (1, .int x1), (2, .int x2)] [] M Q) (x2 : Int32) (M : jM) (e2 : Int32) (Me : jM) (h : f_X6_house_L181_b rec x2 M = some (e2, Me)) (hK : jJ Γ GM RM 210 [(0, .ref (jad Γ 0)), (1, .int x1), (2, .int e2)] [] Me Q) : jJ Γ GM RM 181 [(0, .ref (jad Γ 0)), (1, .int x1), (2, .int x2)] [] M Q := by
  unfold f_X6_house_L181_b at h
  refine j_iload_n 2 (pc' := 182) hC dX6_house_181 rfl rfl ?_
  refine j_bipush (v := 12) (pc' := 184) hC dX6_house_182 rfl rfl ?_
  refine j_icmp_ge (tgt := 210) (pc' := 187) hC dX6_house_184 (by decide) rfl (fun c1 => ?_) (fun c1 => ?_)
  · have h := jit_t c1 h
    obtain ⟨q0, q1⟩ := jinj2 h
    subst q0
    subst q1
    refine j_sub [0, 1, 2] rfl ?_
    exact hK
  · have h := jit_f c1 h
    refine j_aload_n 0 (pc' := 188) hC dX6_house_187 rfl rfl ?_
    refine j_getr' (o2 := 12) (pc' := 191) hC dX6_house_188 rfl fi_X6_43 gm0 rfl ?_
    refine j_iload_n 2 (pc' := 192) hC dX6_house_191 rfl rfl ?_
    refine j_iload_n 2 (pc' := 193) hC dX6_house_192 rfl rfl ?_
    refine j_iconst (v := 5) (pc' := 194) hC dX6_house_193 rfl rfl ?_
    obtain ⟨v3, hm5, h⟩ := jlet_s h
    have K4 : jJ Γ GM RM 203 [(0, .ref (jad Γ 0)), (1, .int x1), (2, .int x2)] [.int v3, .int x2, .ref (jad Γ 12)] M Q := by
      obtain ⟨g7, h⟩ := jg_s h
      obtain ⟨M8, eM8, h⟩ := jlet_s h
      refine j_iast' (pc' := 204) hC dX6_house_203 rfl gm12 g7 eM8 ?_
      obtain ⟨v9, ev9, h⟩ := jlet_s h
      refine j_iinc' 2 (c := 1) (pc' := 207) hC dX6_house_204 rfl rfl rfl ev9 (by decide) rfl ?_
      refine j_goto (tgt := 181) (pc' := 0) hC dX6_house_207 (by decide) ?_
      refine j_sub [1, 2, 0] rfl ?_
      exact ih _ _ _ _ h hK
    refine j_icmp_ge (tgt := 201) (pc' := 197) hC dX6_house_194 (by decide) rfl (fun c6 => ?_) (fun c6 => ?_)
    · have hm5 := jit_t c6 hm5
      refine j_bipush (v := -9) (pc' := 203) hC dX6_house_201 rfl rfl ?_
      subst hm5
      exact j_sub [0, 1, 2] rfl K4
    · have hm5 := jit_f c6 hm5
      refine j_iconst (v := 0) (pc' := 198) hC dX6_house_197 rfl rfl ?_
      refine j_goto (tgt := 203) (pc' := 0) hC dX6_house_198 (by decide) ?_
      subst hm5
      exact j_sub [0, 1, 2] rfl K4
theorem lp_X6_house_L181 {Γ : jG} (hC : jOK Γ cX6_house 3 RX6 (some .int) { frames := 5, cells := 0, slots := 0, locals := 118 }) {Q : State → Prop} (x1 : Int32) : ∀ (n : Nat) (x2 : Int32) (M : jM) (e2 : Int32) (Me : jM), f_X6_house_L181 n x2 M = some (e2, Me) → jJ Γ GM RM 210 [(0, .ref (jad Γ 0)), (1, .int x1), (2, .int e2)] [] Me Q → jJ Γ GM RM 181 [(0, .ref (jad Γ 0)), (1, .int x1), (2, .int x2)] [] M Q := by
  intro n
  induction n with
  | zero =>
    intro x2 M e2 Me h hK
    exact jno h
  | succ n ih =>
    intro x2 M e2 Me h hK
    exact lp_X6_house_L181_b hC x1 (f_X6_house_L181 n) ih x2 M e2 Me h hK
theorem lp_X6_house_L217_b {Γ : jG} (hC : jOK Γ cX6_house 3 RX6 (some .int) { frames := 5, cells := 0, slots := 0, locals := 118 }) {Q : State → Prop} (x1 : Int32) (rec : Int32 → jM → Option (Int32 × jM)) (ih : ∀ (x2 : Int32) (M : jM) (e2 : Int32) (Me : jM), rec x2 M = some (e2, Me) → jJ Γ GM RM 235 [(0, .ref (jad Γ 0)), (1, .int x1), (2, .int e2)] [] Me Q → jJ Γ GM RM 217 [(0, .ref (jad Γ 0)), (1, .int x1), (2, .int x2)] [] M Q) (x2 : Int32) (M : jM) (e2 : Int32) (Me : jM) (h : f_X6_house_L217_b rec x2 M = some (e2, Me)) (hK : jJ Γ GM RM 235 [(0, .ref (jad Γ 0)), (1, .int x1), (2, .int e2)] [] Me Q) : jJ Γ GM RM 217 [(0, .ref (jad Γ 0)), (1, .int x1), (2, .int x2)] [] M Q := by
  unfold f_X6_house_L217_b at h
  refine j_iload_n 2 (pc' := 218) hC dX6_house_217 rfl rfl ?_
  refine j_iconst (v := 3) (pc' := 219) hC dX6_house_218 rfl rfl ?_
  refine j_icmp_ge (tgt := 235) (pc' := 222) hC dX6_house_219 (by decide) rfl (fun c1 => ?_) (fun c1 => ?_)
  · have h := jit_t c1 h
    obtain ⟨q0, q1⟩ := jinj2 h
    subst q0
    subst q1
    refine j_sub [0, 1, 2] rfl ?_
    exact hK
  · have h := jit_f c1 h
    refine j_aload_n 0 (pc' := 223) hC dX6_house_222 rfl rfl ?_
    refine j_getr' (o2 := 18) (pc' := 226) hC dX6_house_223 rfl fi_X6_65 gm0 rfl ?_
    refine j_iload_n 2 (pc' := 227) hC dX6_house_226 rfl rfl ?_
    refine j_iconst (v := 0) (pc' := 228) hC dX6_house_227 rfl rfl ?_
    obtain ⟨g2, h⟩ := jg_s h
    obtain ⟨M3, eM3, h⟩ := jlet_s h
    refine j_zast' (pc' := 229) hC dX6_house_228 rfl gm18 g2 eM3 ?_
    obtain ⟨v4, ev4, h⟩ := jlet_s h
    refine j_iinc' 2 (c := 1) (pc' := 232) hC dX6_house_229 rfl rfl rfl ev4 (by decide) rfl ?_
    refine j_goto (tgt := 217) (pc' := 0) hC dX6_house_232 (by decide) ?_
    refine j_sub [1, 2, 0] rfl ?_
    exact ih _ _ _ _ h hK
theorem lp_X6_house_L217 {Γ : jG} (hC : jOK Γ cX6_house 3 RX6 (some .int) { frames := 5, cells := 0, slots := 0, locals := 118 }) {Q : State → Prop} (x1 : Int32) : ∀ (n : Nat) (x2 : Int32) (M : jM) (e2 : Int32) (Me : jM), f_X6_house_L217 n x2 M = some (e2, Me) → jJ Γ GM RM 235 [(0, .ref (jad Γ 0)), (1, .int x1), (2, .int e2)] [] Me Q → jJ Γ GM RM 217 [(0, .ref (jad Γ 0)), (1, .int x1), (2, .int x2)] [] M Q := by
  intro n
  induction n with
  | zero =>
    intro x2 M e2 Me h hK
    exact jno h
  | succ n ih =>
    intro x2 M e2 Me h hK
    exact lp_X6_house_L217_b hC x1 (f_X6_house_L217 n) ih x2 M e2 Me h hK
theorem t_X6_house (l : Launch) (E : jE) {a1 : Int32} {M : jM} {r : Int32} {M' : jM} (h : f_X6_house a1 M = some (r, M')) : jCi l yX6_house cX6_house 3 (some .int) 5 118 E RM GM (fun a _ => [.ref (a 0), .int a1]) M r M' := by
  refine jCi_of (own := RX6) (by decide) rfl (fun _ _ => Nat.le_of_ble_eq_true rfl) ?_
  intro Γ hC
  show jJ Γ GM RM 0 [(0, .ref (jad Γ 0)), (1, .int a1)] [] M (jQi Γ RM GM r M')
  unfold f_X6_house at h
  refine j_iload_n 1 (pc' := 1) hC dX6_house_0 rfl rfl ?_
  obtain ⟨r1, hc2, h⟩ := jb1_s h
  refine j_callSi [.int a1] (pc' := 4) hC dX6_house_1 rfl (t_X6_isText _ _ hc2) cs_X6_114 ⟨⟨Nat.le_of_ble_eq_true rfl, Nat.le_of_ble_eq_true rfl⟩, rfl, Nat.le_of_ble_eq_true rfl⟩ rfl rfl ?_
  refine j_if_ne (tgt := 9) (pc' := 7) hC dX6_house_4 (by decide) rfl (fun c3 => ?_) (fun c3 => ?_)
  · have h := jit_f c3 h
    refine j_aload_n 0 (pc' := 10) hC dX6_house_9 rfl rfl ?_
    refine j_getr' (o2 := 3) (pc' := 13) hC dX6_house_10 rfl fi_X6_16 gm0 rfl ?_
    refine j_iload_n 1 (pc' := 14) hC dX6_house_13 rfl rfl ?_
    obtain ⟨g4, h⟩ := jg_s h
    refine j_iald (pc' := 15) hC dX6_house_14 rfl gm3 g4 ?_
    refine j_if_ge (tgt := 24) (pc' := 18) hC dX6_house_15 (by decide) rfl (fun c5 => ?_) (fun c5 => ?_)
    · have h := jit_t c5 h
      refine j_aload_n 0 (pc' := 25) hC dX6_house_24 rfl rfl ?_
      refine j_iload_n 1 (pc' := 26) hC dX6_house_25 rfl rfl ?_
      obtain ⟨r6, M7, hc8, h⟩ := jb2_s h
      refine j_callVi [.int a1] (pc' := 29) hC dX6_house_26 rfl (t_X6_readHouse _ _ hc8) gm0 vcl6 cv_X6_153 ⟨⟨Nat.le_of_ble_eq_true rfl, Nat.le_of_ble_eq_true rfl⟩, rfl, Nat.le_of_ble_eq_true rfl⟩ rfl rfl ?_
      refine j_if_ne (tgt := 35) (pc' := 32) hC dX6_house_29 (by decide) rfl (fun c9 => ?_) (fun c9 => ?_)
      · have h := jit_f c9 h
        refine j_aload_n 0 (pc' := 36) hC dX6_house_35 rfl rfl ?_
        refine j_aload_n 0 (pc' := 37) hC dX6_house_36 rfl rfl ?_
        refine j_geti' (pc' := 40) hC dX6_house_37 rfl fi_X6_126 gm0 ?_
        obtain ⟨M10, eM10, h⟩ := jlet_s h
        refine j_puti' (pc' := 43) hC dX6_house_40 rfl fp_X6_156 gm0 eM10 ?_
        refine j_aload_n 0 (pc' := 44) hC dX6_house_43 rfl rfl ?_
        refine j_aload_n 0 (pc' := 45) hC dX6_house_44 rfl rfl ?_
        refine j_geti' (pc' := 48) hC dX6_house_45 rfl fi_X6_129 gm0 ?_
        obtain ⟨M11, eM11, h⟩ := jlet_s h
        refine j_puti' (pc' := 51) hC dX6_house_48 rfl fp_X6_159 gm0 eM11 ?_
        refine j_iconst (v := 0) (pc' := 52) hC dX6_house_51 rfl rfl ?_
        refine j_istore_n (pc' := 53) hC dX6_house_52 rfl rfl (by decide) rfl ?_
        refine j_sub [1, 2, 0] rfl ?_
        obtain ⟨v12, M13, hm14, h⟩ := jb2_s h
        refine lp_X6_house_L53 hC a1 jfu (0 : Int32) M11 v12 M13 hm14 ?_
        refine j_iconst (v := 0) (pc' := 114) hC dX6_house_113 rfl rfl ?_
        refine j_istore_n (pc' := 115) hC dX6_house_114 rfl rfl (by decide) rfl ?_
        refine j_sub [1, 2, 0] rfl ?_
        obtain ⟨v15, M16, hm17, h⟩ := jb2_s h
        refine lp_X6_house_L115 hC a1 jfu (0 : Int32) M13 v15 M16 hm17 ?_
        refine j_aload_n 0 (pc' := 176) hC dX6_house_175 rfl rfl ?_
        obtain ⟨M18, hc19, h⟩ := jb1_s h
        refine j_callVv [] (pc' := 179) hC dX6_house_176 rfl (t_X6_newRoutes _ _ hc19) gm0 vcl6 cv_X6_81 ⟨⟨Nat.le_of_ble_eq_true rfl, Nat.le_of_ble_eq_true rfl⟩, rfl, Nat.le_of_ble_eq_true rfl⟩ rfl rfl ?_
        refine j_iconst (v := 0) (pc' := 180) hC dX6_house_179 rfl rfl ?_
        refine j_istore_n (pc' := 181) hC dX6_house_180 rfl rfl (by decide) rfl ?_
        refine j_sub [1, 2, 0] rfl ?_
        obtain ⟨v20, M21, hm22, h⟩ := jb2_s h
        refine lp_X6_house_L181 hC a1 jfu (0 : Int32) M18 v20 M21 hm22 ?_
        refine j_aload_n 0 (pc' := 211) hC dX6_house_210 rfl rfl ?_
        refine j_iconst (v := 0) (pc' := 212) hC dX6_house_211 rfl rfl ?_
        obtain ⟨M23, eM23, h⟩ := jlet_s h
        refine j_puti' (pc' := 215) hC dX6_house_212 rfl fp_X6_162 gm0 eM23 ?_
        refine j_iconst (v := 0) (pc' := 216) hC dX6_house_215 rfl rfl ?_
        refine j_istore_n (pc' := 217) hC dX6_house_216 rfl rfl (by decide) rfl ?_
        refine j_sub [1, 2, 0] rfl ?_
        obtain ⟨v24, M25, hm26, h⟩ := jb2_s h
        refine lp_X6_house_L217 hC a1 jfu (0 : Int32) M23 v24 M25 hm26 ?_
        refine j_aload_n 0 (pc' := 236) hC dX6_house_235 rfl rfl ?_
        refine j_geti' (pc' := 239) hC dX6_house_236 rfl fi_X6_156 gm0 ?_
        obtain ⟨q0, q1⟩ := jinj2 h
        subst q0
        subst q1
        exact j_iret hC dX6_house_239
      · have h := jit_t c9 h
        refine j_bipush (v := -4) (pc' := 34) hC dX6_house_32 rfl rfl ?_
        obtain ⟨q0, q1⟩ := jinj2 h
        subst q0
        subst q1
        exact j_iret hC dX6_house_34
    · have h := jit_f c5 h
      refine j_aload_n 0 (pc' := 19) hC dX6_house_18 rfl rfl ?_
      refine j_iconst (v := 1) (pc' := 20) hC dX6_house_19 rfl rfl ?_
      obtain ⟨r27, M28, hc29, h⟩ := jb2_s h
      refine j_callVi [.int (1 : Int32)] (pc' := 23) hC dX6_house_20 rfl (t_X6_find _ _ hc29) gm0 vcl6 cv_X6_103 ⟨⟨Nat.le_of_ble_eq_true rfl, Nat.le_of_ble_eq_true rfl⟩, rfl, Nat.le_of_ble_eq_true rfl⟩ rfl rfl ?_
      obtain ⟨q0, q1⟩ := jinj2 h
      subst q0
      subst q1
      exact j_iret hC dX6_house_23
  · have h := jit_t c3 h
    refine j_iconst (v := -1) (pc' := 8) hC dX6_house_7 rfl rfl ?_
    obtain ⟨q0, q1⟩ := jinj2 h
    subst q0
    subst q1
    exact j_iret hC dX6_house_8
theorem t_X6_isDeed (l : Launch) (E : jE) {a1 : Int32} {M : jM} {r : Int32} (h : f_X6_isDeed a1 M = some r) : jCi l yX6_isDeed cX6_isDeed 2 (some .boolean) 1 25 E RM GM (fun a _ => [.ref (a 0), .int a1]) M r M := by
  refine jCi_of (own := RX6) (by decide) rfl (fun _ _ => Nat.le_of_ble_eq_true rfl) ?_
  intro Γ hC
  show jJ Γ GM RM 0 [(0, .ref (jad Γ 0)), (1, .int a1)] [] M (jQi Γ RM GM r M)
  unfold f_X6_isDeed at h
  refine j_iload_n 1 (pc' := 1) hC dX6_isDeed_0 rfl rfl ?_
  refine j_i2l (pc' := 2) hC dX6_isDeed_1 rfl ?_
  refine j_lconst (v := 0) (pc' := 3) hC dX6_isDeed_2 rfl rfl ?_
  refine j_aload_n 0 (pc' := 4) hC dX6_isDeed_3 rfl rfl ?_
  refine j_geti' (pc' := 7) hC dX6_isDeed_4 rfl fi_X6_156 gm0 ?_
  refine j_iconst (v := 1) (pc' := 8) hC dX6_isDeed_7 rfl rfl ?_
  refine j_isub (pc' := 9) hC dX6_isDeed_8 rfl ?_
  refine j_i2l (pc' := 10) hC dX6_isDeed_9 rfl ?_
  obtain ⟨r1, hc2, h⟩ := jb1_s h
  refine j_callSi [.long a1.toInt64, .long (0 : Int64), .long ((gi M 0 7) - (1 : Int32)).toInt64] (pc' := 13) hC dX6_isDeed_10 rfl (t_X6_in _ _ hc2) cs_X6_93 ⟨⟨Nat.le_of_ble_eq_true rfl, Nat.le_of_ble_eq_true rfl⟩, rfl, Nat.le_of_ble_eq_true rfl⟩ rfl rfl ?_
  obtain ⟨g3, h⟩ := jg_s h
  have q8 := jinj1 h
  subst q8
  exact j_zret hC dX6_isDeed_13 (of_decide_eq_true g3)
theorem t_X6_isHour (l : Launch) (E : jE) {a1 : Int32} {M : jM} {r : Int32} (h : f_X6_isHour a1 M = some r) : jCi l yX6_isHour cX6_isHour 2 (some .boolean) 1 25 E RM GM (fun a _ => [.ref (a 0), .int a1]) M r M := by
  refine jCi_of (own := RX6) (by decide) rfl (fun _ _ => Nat.le_of_ble_eq_true rfl) ?_
  intro Γ hC
  show jJ Γ GM RM 0 [(0, .ref (jad Γ 0)), (1, .int a1)] [] M (jQi Γ RM GM r M)
  unfold f_X6_isHour at h
  refine j_iload_n 1 (pc' := 1) hC dX6_isHour_0 rfl rfl ?_
  refine j_i2l (pc' := 2) hC dX6_isHour_1 rfl ?_
  refine j_lconst (v := 0) (pc' := 3) hC dX6_isHour_2 rfl rfl ?_
  refine j_aload_n 0 (pc' := 4) hC dX6_isHour_3 rfl rfl ?_
  refine j_geti' (pc' := 7) hC dX6_isHour_4 rfl fi_X6_159 gm0 ?_
  refine j_iconst (v := 1) (pc' := 8) hC dX6_isHour_7 rfl rfl ?_
  refine j_isub (pc' := 9) hC dX6_isHour_8 rfl ?_
  refine j_i2l (pc' := 10) hC dX6_isHour_9 rfl ?_
  obtain ⟨r1, hc2, h⟩ := jb1_s h
  refine j_callSi [.long a1.toInt64, .long (0 : Int64), .long ((gi M 0 11) - (1 : Int32)).toInt64] (pc' := 13) hC dX6_isHour_10 rfl (t_X6_in _ _ hc2) cs_X6_93 ⟨⟨Nat.le_of_ble_eq_true rfl, Nat.le_of_ble_eq_true rfl⟩, rfl, Nat.le_of_ble_eq_true rfl⟩ rfl rfl ?_
  obtain ⟨g3, h⟩ := jg_s h
  have q8 := jinj1 h
  subst q8
  exact j_zret hC dX6_isHour_13 (of_decide_eq_true g3)
theorem lp_X6_allNeeds_L11_b {Γ : jG} (hC : jOK Γ cX6_allNeeds 4 RX6 (some .int) { frames := 1, cells := 0, slots := 0, locals := 21 }) {Q : State → Prop} (x1 : Int32) (rec : Int32 → Int32 → jM → Option (Int32 × Int32)) (ih : ∀ (x2 : Int32) (x3 : Int32) (M : jM) (e2 : Int32) (e3 : Int32), rec x2 x3 M = some (e2, e3) → jJ Γ GM RM 42 [(0, .ref (jad Γ 0)), (1, .int x1), (2, .int e2), (3, .int e3)] [] M Q → jJ Γ GM RM 11 [(0, .ref (jad Γ 0)), (1, .int x1), (2, .int x2), (3, .int x3)] [] M Q) (x2 : Int32) (x3 : Int32) (M : jM) (e2 : Int32) (e3 : Int32) (h : f_X6_allNeeds_L11_b rec x2 x3 M = some (e2, e3)) (hK : jJ Γ GM RM 42 [(0, .ref (jad Γ 0)), (1, .int x1), (2, .int e2), (3, .int e3)] [] M Q) : jJ Γ GM RM 11 [(0, .ref (jad Γ 0)), (1, .int x1), (2, .int x2), (3, .int x3)] [] M Q := by
  unfold f_X6_allNeeds_L11_b at h
  refine j_iload_n 3 (pc' := 12) hC dX6_allNeeds_11 rfl rfl ?_
  refine j_if_lt (tgt := 42) (pc' := 15) hC dX6_allNeeds_12 (by decide) rfl (fun c1 => ?_) (fun c1 => ?_)
  · have h := jit_t c1 h
    obtain ⟨q0, q1⟩ := jinj2 h
    subst q0
    subst q1
    refine j_sub [0, 1, 2, 3] rfl ?_
    exact hK
  · have h := jit_f c1 h
    refine j_iload_n 2 (pc' := 16) hC dX6_allNeeds_15 rfl rfl ?_
    refine j_iload_n 2 (pc' := 17) hC dX6_allNeeds_16 rfl rfl ?_
    refine j_iload_n 3 (pc' := 18) hC dX6_allNeeds_17 rfl rfl ?_
    obtain ⟨r2, hc3, h⟩ := jb1_s h
    refine j_callSi [.int x2, .int x3] (pc' := 21) hC dX6_allNeeds_18 rfl (t_X6_has _ _ hc3) cs_X6_136 ⟨⟨Nat.le_of_ble_eq_true rfl, Nat.le_of_ble_eq_true rfl⟩, rfl, Nat.le_of_ble_eq_true rfl⟩ rfl rfl ?_
    obtain ⟨v6, hm8, h⟩ := jb1_s h
    have K7 : jJ Γ GM RM 34 [(0, .ref (jad Γ 0)), (1, .int x1), (2, .int x2), (3, .int x3)] [.int v6, .int x2] M Q := by
      refine j_ior (pc' := 35) hC dX6_allNeeds_34 rfl ?_
      obtain ⟨v11, ev11, h⟩ := jlet_s h
      refine j_istore_n (pc' := 36) hC dX6_allNeeds_35 rfl ev11 (by decide) rfl ?_
      obtain ⟨v12, ev12, h⟩ := jlet_s h
      refine j_iinc' 3 (c := -1) (pc' := 39) hC dX6_allNeeds_36 rfl rfl rfl ev12 (by decide) rfl ?_
      refine j_goto (tgt := 11) (pc' := 0) hC dX6_allNeeds_39 (by decide) ?_
      refine j_sub [2, 3, 1, 0] rfl ?_
      exact ih _ _ _ _ _ h hK
    refine j_if_eq (tgt := 33) (pc' := 24) hC dX6_allNeeds_21 (by decide) rfl (fun c9 => ?_) (fun c9 => ?_)
    · have hm8 := jit_t c9 hm8
      refine j_iconst (v := 0) (pc' := 34) hC dX6_allNeeds_33 rfl rfl ?_
      have q8 := jinj1 hm8
      subst q8
      exact j_sub [0, 1, 2, 3] rfl K7
    · have hm8 := jit_f c9 hm8
      refine j_aload_n 0 (pc' := 25) hC dX6_allNeeds_24 rfl rfl ?_
      refine j_getr' (o2 := 7) (pc' := 28) hC dX6_allNeeds_25 rfl fi_X6_28 gm0 rfl ?_
      refine j_iload_n 3 (pc' := 29) hC dX6_allNeeds_28 rfl rfl ?_
      obtain ⟨g10, hm8⟩ := jg_s hm8
      refine j_iald (pc' := 30) hC dX6_allNeeds_29 rfl gm7 g10 ?_
      refine j_goto (tgt := 34) (pc' := 0) hC dX6_allNeeds_30 (by decide) ?_
      have q8 := jinj1 hm8
      subst q8
      exact j_sub [0, 1, 2, 3] rfl K7
theorem lp_X6_allNeeds_L11 {Γ : jG} (hC : jOK Γ cX6_allNeeds 4 RX6 (some .int) { frames := 1, cells := 0, slots := 0, locals := 21 }) {Q : State → Prop} (x1 : Int32) : ∀ (n : Nat) (x2 : Int32) (x3 : Int32) (M : jM) (e2 : Int32) (e3 : Int32), f_X6_allNeeds_L11 n x2 x3 M = some (e2, e3) → jJ Γ GM RM 42 [(0, .ref (jad Γ 0)), (1, .int x1), (2, .int e2), (3, .int e3)] [] M Q → jJ Γ GM RM 11 [(0, .ref (jad Γ 0)), (1, .int x1), (2, .int x2), (3, .int x3)] [] M Q := by
  intro n
  induction n with
  | zero =>
    intro x2 x3 M e2 e3 h hK
    exact jno h
  | succ n ih =>
    intro x2 x3 M e2 e3 h hK
    exact lp_X6_allNeeds_L11_b hC x1 (f_X6_allNeeds_L11 n) ih x2 x3 M e2 e3 h hK
theorem t_X6_allNeeds (l : Launch) (E : jE) {a1 : Int32} {M : jM} {r : Int32} (h : f_X6_allNeeds a1 M = some r) : jCi l yX6_allNeeds cX6_allNeeds 4 (some .int) 1 21 E RM GM (fun a _ => [.ref (a 0), .int a1]) M r M := by
  refine jCi_of (own := RX6) (by decide) rfl (fun _ _ => Nat.le_of_ble_eq_true rfl) ?_
  intro Γ hC
  show jJ Γ GM RM 0 [(0, .ref (jad Γ 0)), (1, .int a1)] [] M (jQi Γ RM GM r M)
  unfold f_X6_allNeeds at h
  refine j_aload_n 0 (pc' := 1) hC dX6_allNeeds_0 rfl rfl ?_
  refine j_getr' (o2 := 7) (pc' := 4) hC dX6_allNeeds_1 rfl fi_X6_28 gm0 rfl ?_
  refine j_iload_n 1 (pc' := 5) hC dX6_allNeeds_4 rfl rfl ?_
  obtain ⟨g1, h⟩ := jg_s h
  refine j_iald (pc' := 6) hC dX6_allNeeds_5 rfl gm7 g1 ?_
  obtain ⟨v2, ev2, h⟩ := jlet_s h
  refine j_istore_n (pc' := 7) hC dX6_allNeeds_6 rfl ev2 (by decide) rfl ?_
  refine j_iload_n 2 (pc' := 8) hC dX6_allNeeds_7 rfl rfl ?_
  refine j_iconst (v := 1) (pc' := 9) hC dX6_allNeeds_8 rfl rfl ?_
  refine j_isub (pc' := 10) hC dX6_allNeeds_9 rfl ?_
  obtain ⟨v3, ev3, h⟩ := jlet_s h
  refine j_istore_n (pc' := 11) hC dX6_allNeeds_10 rfl ev3 (by decide) rfl ?_
  refine j_sub [2, 3, 1, 0] rfl ?_
  obtain ⟨v4, v5, hm6, h⟩ := jb2_s h
  refine lp_X6_allNeeds_L11 hC a1 jfu v2 v3 M v4 v5 hm6 ?_
  refine j_iload_n 2 (pc' := 43) hC dX6_allNeeds_42 rfl rfl ?_
  have q8 := jinj1 h
  subst q8
  exact j_iret hC dX6_allNeeds_43
