theorem t_X6_send (l : Launch) (E : jE) {a1 : Int32} {M : jM} {r : Int32} {M' : jM} (h : f_X6_send a1 M = some (r, M')) : jCi l yX6_send cX6_send 2 (some .int) 3 65 E RM GM (fun a _ => [.ref (a 0), .int a1]) M r M' := by
  refine jCi_of (own := RX6) (by decide) rfl (fun _ _ => Nat.le_of_ble_eq_true rfl) ?_
  intro Γ hC
  show jJ Γ GM RM 0 [(0, .ref (jad Γ 0)), (1, .int a1)] [] M (jQi Γ RM GM r M')
  unfold f_X6_send at h
  refine j_aload_n 0 (pc' := 1) hC dX6_send_0 rfl rfl ?_
  refine j_iload_n 1 (pc' := 2) hC dX6_send_1 rfl rfl ?_
  obtain ⟨r1, hc2, h⟩ := jb1_s h
  refine j_callVi [.int a1] (pc' := 5) hC dX6_send_2 rfl (t_X6_isHour _ _ hc2) gm0 vcl6 cv_X6_189 ⟨⟨Nat.le_of_ble_eq_true rfl, Nat.le_of_ble_eq_true rfl⟩, rfl, Nat.le_of_ble_eq_true rfl⟩ rfl rfl ?_
  refine j_if_ne (tgt := 10) (pc' := 8) hC dX6_send_5 (by decide) rfl (fun c3 => ?_) (fun c3 => ?_)
  · have h := jit_f c3 h
    refine j_aload_n 0 (pc' := 11) hC dX6_send_10 rfl rfl ?_
    refine j_iload_n 1 (pc' := 12) hC dX6_send_11 rfl rfl ?_
    obtain ⟨r4, hc5, h⟩ := jb1_s h
    refine j_callVi [.int a1] (pc' := 15) hC dX6_send_12 rfl (t_X6_isOnShelf _ _ hc5) gm0 vcl6 cv_X6_226 ⟨⟨Nat.le_of_ble_eq_true rfl, Nat.le_of_ble_eq_true rfl⟩, rfl, Nat.le_of_ble_eq_true rfl⟩ rfl rfl ?_
    refine j_if_ne (tgt := 21) (pc' := 18) hC dX6_send_15 (by decide) rfl (fun c6 => ?_) (fun c6 => ?_)
    · have h := jit_f c6 h
      refine j_aload_n 0 (pc' := 22) hC dX6_send_21 rfl rfl ?_
      refine j_geti' (pc' := 25) hC dX6_send_22 rfl fi_X6_162 gm0 ?_
      refine j_bipush (v := 40) (pc' := 27) hC dX6_send_25 rfl rfl ?_
      refine j_icmp_ne (tgt := 33) (pc' := 30) hC dX6_send_27 (by decide) rfl (fun c7 => ?_) (fun c7 => ?_)
      · have h := jit_f c7 h
        refine j_aload_n 0 (pc' := 34) hC dX6_send_33 rfl rfl ?_
        obtain ⟨M8, hc9, h⟩ := jb1_s h
        refine j_callVv [] (pc' := 37) hC dX6_send_34 rfl (t_X6_note _ _ hc9) gm0 vcl6 cv_X6_223 ⟨⟨Nat.le_of_ble_eq_true rfl, Nat.le_of_ble_eq_true rfl⟩, rfl, Nat.le_of_ble_eq_true rfl⟩ rfl rfl ?_
        refine j_aload_n 0 (pc' := 38) hC dX6_send_37 rfl rfl ?_
        refine j_getr' (o2 := 12) (pc' := 41) hC dX6_send_38 rfl fi_X6_43 gm0 rfl ?_
        refine j_iconst (v := 2) (pc' := 42) hC dX6_send_41 rfl rfl ?_
        refine j_dup2 (pc' := 43) hC dX6_send_42 rfl rfl rfl ?_
        refine j_iald (pc' := 44) hC dX6_send_43 rfl gm12 (by decide) ?_
        refine j_iconst (v := 1) (pc' := 45) hC dX6_send_44 rfl rfl ?_
        refine j_iload_n 1 (pc' := 46) hC dX6_send_45 rfl rfl ?_
        refine j_ishl (pc' := 47) hC dX6_send_46 rfl ?_
        refine j_ior (pc' := 48) hC dX6_send_47 rfl ?_
        obtain ⟨M10, eM10, h⟩ := jlet_s h
        refine j_iast' (pc' := 49) hC dX6_send_48 rfl gm12 (by decide) eM10 ?_
        refine j_aload_n 0 (pc' := 50) hC dX6_send_49 rfl rfl ?_
        refine j_aload_n 0 (pc' := 51) hC dX6_send_50 rfl rfl ?_
        refine j_getr' (o2 := 12) (pc' := 54) hC dX6_send_51 rfl fi_X6_43 gm0 rfl ?_
        refine j_iconst (v := 0) (pc' := 55) hC dX6_send_54 rfl rfl ?_
        refine j_iald (pc' := 56) hC dX6_send_55 rfl gm12 (by decide) ?_
        obtain ⟨r11, hc12, h⟩ := jb1_s h
        refine j_callVi [.int (gi M10 12 (0 : Int32).toNatClampNeg)] (pc' := 59) hC dX6_send_56 rfl (t_X6_shelfOn _ _ hc12) gm0 vcl6 cv_X6_213 ⟨⟨Nat.le_of_ble_eq_true rfl, Nat.le_of_ble_eq_true rfl⟩, rfl, Nat.le_of_ble_eq_true rfl⟩ rfl rfl ?_
        obtain ⟨r13, hc14, h⟩ := jb1_s h
        refine j_callSi [.int r11] (pc' := 62) hC dX6_send_59 rfl (t_X6_ones _ _ hc14) cs_X6_200 ⟨⟨Nat.le_of_ble_eq_true rfl, Nat.le_of_ble_eq_true rfl⟩, rfl, Nat.le_of_ble_eq_true rfl⟩ rfl rfl ?_
        obtain ⟨q0, q1⟩ := jinj2 h
        subst q0
        subst q1
        exact j_iret hC dX6_send_62
      · have h := jit_t c7 h
        refine j_bipush (v := -2) (pc' := 32) hC dX6_send_30 rfl rfl ?_
        obtain ⟨q0, q1⟩ := jinj2 h
        subst q0
        subst q1
        exact j_iret hC dX6_send_32
    · have h := jit_t c6 h
      refine j_bipush (v := -4) (pc' := 20) hC dX6_send_18 rfl rfl ?_
      obtain ⟨q0, q1⟩ := jinj2 h
      subst q0
      subst q1
      exact j_iret hC dX6_send_20
  · have h := jit_t c3 h
    refine j_iconst (v := -1) (pc' := 9) hC dX6_send_8 rfl rfl ?_
    obtain ⟨q0, q1⟩ := jinj2 h
    subst q0
    subst q1
    exact j_iret hC dX6_send_9
theorem lp_X6_undo_L25_b {Γ : jG} (hC : jOK Γ cX6_undo 4 RX6 (some .int) { frames := 1, cells := 0, slots := 0, locals := 25 }) {Q : State → Prop} (rec : Int32 → Int32 → Int32 → jM → Option (Int32 × jM)) (ih : ∀ (x1 : Int32) (x2 : Int32) (x3 : Int32) (M : jM) (e3 : Int32) (Me : jM), rec x1 x2 x3 M = some (e3, Me) → jJ Γ GM RM 58 [(0, .ref (jad Γ 0)), (1, .int x1), (2, .int x2), (3, .int e3)] [] Me Q → jJ Γ GM RM 25 [(0, .ref (jad Γ 0)), (1, .int x1), (2, .int x2), (3, .int x3)] [] M Q) (x1 : Int32) (x2 : Int32) (x3 : Int32) (M : jM) (e3 : Int32) (Me : jM) (h : f_X6_undo_L25_b rec x1 x2 x3 M = some (e3, Me)) (hK : jJ Γ GM RM 58 [(0, .ref (jad Γ 0)), (1, .int x1), (2, .int x2), (3, .int e3)] [] Me Q) : jJ Γ GM RM 25 [(0, .ref (jad Γ 0)), (1, .int x1), (2, .int x2), (3, .int x3)] [] M Q := by
  unfold f_X6_undo_L25_b at h
  refine j_iload_n 3 (pc' := 26) hC dX6_undo_25 rfl rfl ?_
  refine j_bipush (v := 12) (pc' := 28) hC dX6_undo_26 rfl rfl ?_
  refine j_icmp_ge (tgt := 58) (pc' := 31) hC dX6_undo_28 (by decide) rfl (fun c1 => ?_) (fun c1 => ?_)
  · have h := jit_t c1 h
    obtain ⟨q0, q1⟩ := jinj2 h
    subst q0
    subst q1
    refine j_sub [0, 1, 2, 3] rfl ?_
    exact hK
  · have h := jit_f c1 h
    refine j_iload_n 2 (pc' := 32) hC dX6_undo_31 rfl rfl ?_
    refine j_if_le (tgt := 58) (pc' := 35) hC dX6_undo_32 (by decide) rfl (fun c2 => ?_) (fun c2 => ?_)
    · have h := jit_t c2 h
      obtain ⟨q0, q1⟩ := jinj2 h
      subst q0
      subst q1
      refine j_sub [0, 1, 2, 3] rfl ?_
      exact hK
    · have h := jit_f c2 h
      refine j_aload_n 0 (pc' := 36) hC dX6_undo_35 rfl rfl ?_
      refine j_getr' (o2 := 12) (pc' := 39) hC dX6_undo_36 rfl fi_X6_43 gm0 rfl ?_
      refine j_iload_n 3 (pc' := 40) hC dX6_undo_39 rfl rfl ?_
      refine j_aload_n 0 (pc' := 41) hC dX6_undo_40 rfl rfl ?_
      refine j_getr' (o2 := 13) (pc' := 44) hC dX6_undo_41 rfl fi_X6_46 gm0 rfl ?_
      refine j_bipush (v := 12) (pc' := 46) hC dX6_undo_44 rfl rfl ?_
      refine j_iload_n 1 (pc' := 47) hC dX6_undo_46 rfl rfl ?_
      refine j_imul (pc' := 48) hC dX6_undo_47 rfl ?_
      refine j_iload_n 3 (pc' := 49) hC dX6_undo_48 rfl rfl ?_
      refine j_iadd (pc' := 50) hC dX6_undo_49 rfl ?_
      obtain ⟨g3, h⟩ := jg_s h
      refine j_iald (pc' := 51) hC dX6_undo_50 rfl gm13 g3 ?_
      obtain ⟨g4, h⟩ := jg_s h
      obtain ⟨M5, eM5, h⟩ := jlet_s h
      refine j_iast' (pc' := 52) hC dX6_undo_51 rfl gm12 g4 eM5 ?_
      obtain ⟨v6, ev6, h⟩ := jlet_s h
      refine j_iinc' 3 (c := 1) (pc' := 55) hC dX6_undo_52 rfl rfl rfl ev6 (by decide) rfl ?_
      refine j_goto (tgt := 25) (pc' := 0) hC dX6_undo_55 (by decide) ?_
      refine j_sub [1, 2, 3, 0] rfl ?_
      exact ih _ _ _ _ _ _ h hK
theorem lp_X6_undo_L25 {Γ : jG} (hC : jOK Γ cX6_undo 4 RX6 (some .int) { frames := 1, cells := 0, slots := 0, locals := 25 }) {Q : State → Prop} : ∀ (n : Nat) (x1 : Int32) (x2 : Int32) (x3 : Int32) (M : jM) (e3 : Int32) (Me : jM), f_X6_undo_L25 n x1 x2 x3 M = some (e3, Me) → jJ Γ GM RM 58 [(0, .ref (jad Γ 0)), (1, .int x1), (2, .int x2), (3, .int e3)] [] Me Q → jJ Γ GM RM 25 [(0, .ref (jad Γ 0)), (1, .int x1), (2, .int x2), (3, .int x3)] [] M Q := by
  intro n
  induction n with
  | zero =>
    intro x1 x2 x3 M e3 Me h hK
    exact jno h
  | succ n ih =>
    intro x1 x2 x3 M e3 Me h hK
    exact lp_X6_undo_L25_b hC (f_X6_undo_L25 n) ih x1 x2 x3 M e3 Me h hK
theorem t_X6_undo (l : Launch) (E : jE) {a1 : Int32} {M : jM} {r : Int32} {M' : jM} (h : f_X6_undo a1 M = some (r, M')) : jCi l yX6_undo cX6_undo 4 (some .int) 1 25 E RM GM (fun a _ => [.ref (a 0), .int a1]) M r M' := by
  refine jCi_of (own := RX6) (by decide) rfl (fun _ _ => Nat.le_of_ble_eq_true rfl) ?_
  intro Γ hC
  show jJ Γ GM RM 0 [(0, .ref (jad Γ 0)), (1, .int a1)] [] M (jQi Γ RM GM r M')
  unfold f_X6_undo at h
  refine j_iload_n 1 (pc' := 1) hC dX6_undo_0 rfl rfl ?_
  refine j_i2l (pc' := 2) hC dX6_undo_1 rfl ?_
  refine j_lconst (v := 0) (pc' := 3) hC dX6_undo_2 rfl rfl ?_
  refine j_aload_n 0 (pc' := 4) hC dX6_undo_3 rfl rfl ?_
  refine j_geti' (pc' := 7) hC dX6_undo_4 rfl fi_X6_162 gm0 ?_
  refine j_i2l (pc' := 8) hC dX6_undo_7 rfl ?_
  obtain ⟨r1, hc2, h⟩ := jb1_s h
  refine j_callSi [.long a1.toInt64, .long (0 : Int64), .long (gi M 0 15).toInt64] (pc' := 11) hC dX6_undo_8 rfl (t_X6_in _ _ hc2) cs_X6_93 ⟨⟨Nat.le_of_ble_eq_true rfl, Nat.le_of_ble_eq_true rfl⟩, rfl, Nat.le_of_ble_eq_true rfl⟩ rfl rfl ?_
  refine j_if_ne (tgt := 16) (pc' := 14) hC dX6_undo_11 (by decide) rfl (fun c3 => ?_) (fun c3 => ?_)
  · have h := jit_f c3 h
    refine j_aload_n 0 (pc' := 17) hC dX6_undo_16 rfl rfl ?_
    refine j_geti' (pc' := 20) hC dX6_undo_17 rfl fi_X6_162 gm0 ?_
    refine j_iload_n 1 (pc' := 21) hC dX6_undo_20 rfl rfl ?_
    refine j_isub (pc' := 22) hC dX6_undo_21 rfl ?_
    obtain ⟨v4, ev4, h⟩ := jlet_s h
    refine j_istore_n (pc' := 23) hC dX6_undo_22 rfl ev4 (by decide) rfl ?_
    refine j_iconst (v := 0) (pc' := 24) hC dX6_undo_23 rfl rfl ?_
    refine j_istore_n (pc' := 25) hC dX6_undo_24 rfl rfl (by decide) rfl ?_
    refine j_sub [2, 3, 1, 0] rfl ?_
    obtain ⟨v5, M6, hm7, h⟩ := jb2_s h
    refine lp_X6_undo_L25 hC  jfu a1 v4 (0 : Int32) M v5 M6 hm7 ?_
    refine j_aload_n 0 (pc' := 59) hC dX6_undo_58 rfl rfl ?_
    refine j_iload_n 1 (pc' := 60) hC dX6_undo_59 rfl rfl ?_
    obtain ⟨M8, eM8, h⟩ := jlet_s h
    refine j_puti' (pc' := 63) hC dX6_undo_60 rfl fp_X6_162 gm0 eM8 ?_
    refine j_iload_n 2 (pc' := 64) hC dX6_undo_63 rfl rfl ?_
    obtain ⟨q0, q1⟩ := jinj2 h
    subst q0
    subst q1
    exact j_iret hC dX6_undo_64
  · have h := jit_t c3 h
    refine j_iconst (v := -1) (pc' := 15) hC dX6_undo_14 rfl rfl ?_
    obtain ⟨q0, q1⟩ := jinj2 h
    subst q0
    subst q1
    exact j_iret hC dX6_undo_15
theorem t_X6_shelf (l : Launch) (E : jE) {M : jM} {r : Int32} {M' : jM} (h : f_X6_shelf M = some (r, M')) : jCi l yX6_shelf cX6_shelf 1 (some .int) 2 44 E RM GM (fun a _ => [.ref (a 0)]) M r M' := by
  refine jCi_of (own := RX6) (by decide) rfl (fun _ _ => Nat.le_of_ble_eq_true rfl) ?_
  intro Γ hC
  show jJ Γ GM RM 0 [(0, .ref (jad Γ 0))] [] M (jQi Γ RM GM r M')
  unfold f_X6_shelf at h
  refine j_aload_n 0 (pc' := 1) hC dX6_shelf_0 rfl rfl ?_
  refine j_geti' (pc' := 4) hC dX6_shelf_1 rfl fi_X6_156 gm0 ?_
  refine j_if_ne (tgt := 12) (pc' := 7) hC dX6_shelf_4 (by decide) rfl (fun c1 => ?_) (fun c1 => ?_)
  · have h := jit_f c1 h
    refine j_aload_n 0 (pc' := 13) hC dX6_shelf_12 rfl rfl ?_
    refine j_aload_n 0 (pc' := 14) hC dX6_shelf_13 rfl rfl ?_
    refine j_aload_n 0 (pc' := 15) hC dX6_shelf_14 rfl rfl ?_
    refine j_getr' (o2 := 12) (pc' := 18) hC dX6_shelf_15 rfl fi_X6_43 gm0 rfl ?_
    refine j_iconst (v := 0) (pc' := 19) hC dX6_shelf_18 rfl rfl ?_
    refine j_iald (pc' := 20) hC dX6_shelf_19 rfl gm12 (by decide) ?_
    obtain ⟨r2, hc3, h⟩ := jb1_s h
    refine j_callVi [.int (gi M 12 (0 : Int32).toNatClampNeg)] (pc' := 23) hC dX6_shelf_20 rfl (t_X6_shelfOn _ _ hc3) gm0 vcl6 cv_X6_213 ⟨⟨Nat.le_of_ble_eq_true rfl, Nat.le_of_ble_eq_true rfl⟩, rfl, Nat.le_of_ble_eq_true rfl⟩ rfl rfl ?_
    refine j_aload_n 0 (pc' := 24) hC dX6_shelf_23 rfl rfl ?_
    refine j_getr' (o2 := 12) (pc' := 27) hC dX6_shelf_24 rfl fi_X6_43 gm0 rfl ?_
    refine j_iconst (v := 0) (pc' := 28) hC dX6_shelf_27 rfl rfl ?_
    refine j_iald (pc' := 29) hC dX6_shelf_28 rfl gm12 (by decide) ?_
    obtain ⟨r4, M5, hc6, h⟩ := jb2_s h
    refine j_callVi [.int r2, .int (gi M 12 (0 : Int32).toNatClampNeg)] (pc' := 32) hC dX6_shelf_29 rfl (t_X6_answer _ _ hc6) gm0 vcl6 cv_X6_111 ⟨⟨Nat.le_of_ble_eq_true rfl, Nat.le_of_ble_eq_true rfl⟩, rfl, Nat.le_of_ble_eq_true rfl⟩ rfl rfl ?_
    obtain ⟨q0, q1⟩ := jinj2 h
    subst q0
    subst q1
    exact j_iret hC dX6_shelf_32
  · have h := jit_t c1 h
    refine j_bipush (v := -4) (pc' := 9) hC dX6_shelf_7 rfl rfl ?_
    refine j_goto (tgt := 32) (pc' := 0) hC dX6_shelf_9 (by decide) ?_
    obtain ⟨q0, q1⟩ := jinj2 h
    subst q0
    subst q1
    exact j_iret hC dX6_shelf_32
theorem lp_X6_carry_L3_b {Γ : jG} (hC : jOK Γ cX6_carry 7 RX6 (none) { frames := 0, cells := 0, slots := 0, locals := 0 }) {Q : State → Prop} (o1 : Nat) (n1 : Nat) (o3 : Nat) (n3 : Nat) (ho1 : GM[o1]? = some (0, n1)) (ho3 : GM[o3]? = some (0, n3)) (rec : Int32 → Int32 → Int32 → Int32 → jM → Option (Int32 × jM)) (ih : ∀ (x2 : Int32) (x4 : Int32) (x5 : Int32) (x6 : Int32) (M : jM) (e6 : Int32) (Me : jM), rec x2 x4 x5 x6 M = some (e6, Me) → jJ Γ GM RM 29 [(0, .ref (jad Γ 0)), (1, .ref (jad Γ o1)), (2, .int x2), (3, .ref (jad Γ o3)), (4, .int x4), (5, .int x5), (6, .int e6)] [] Me Q → jJ Γ GM RM 3 [(0, .ref (jad Γ 0)), (1, .ref (jad Γ o1)), (2, .int x2), (3, .ref (jad Γ o3)), (4, .int x4), (5, .int x5), (6, .int x6)] [] M Q) (x2 : Int32) (x4 : Int32) (x5 : Int32) (x6 : Int32) (M : jM) (e6 : Int32) (Me : jM) (h : f_X6_carry_L3_b o1 n1 o3 n3 rec x2 x4 x5 x6 M = some (e6, Me)) (hK : jJ Γ GM RM 29 [(0, .ref (jad Γ 0)), (1, .ref (jad Γ o1)), (2, .int x2), (3, .ref (jad Γ o3)), (4, .int x4), (5, .int x5), (6, .int e6)] [] Me Q) : jJ Γ GM RM 3 [(0, .ref (jad Γ 0)), (1, .ref (jad Γ o1)), (2, .int x2), (3, .ref (jad Γ o3)), (4, .int x4), (5, .int x5), (6, .int x6)] [] M Q := by
  unfold f_X6_carry_L3_b at h
  refine j_iload 6 (pc' := 5) hC dX6_carry_3 rfl rfl ?_
  refine j_iload 5 (pc' := 7) hC dX6_carry_5 rfl rfl ?_
  refine j_icmp_ge (tgt := 29) (pc' := 10) hC dX6_carry_7 (by decide) rfl (fun c1 => ?_) (fun c1 => ?_)
  · have h := jit_t c1 h
    obtain ⟨q0, q1⟩ := jinj2 h
    subst q0
    subst q1
    refine j_sub [0, 1, 2, 3, 4, 5, 6] rfl ?_
    exact hK
  · have h := jit_f c1 h
    refine j_aload_n 1 (pc' := 11) hC dX6_carry_10 rfl rfl ?_
    refine j_iload_n 2 (pc' := 12) hC dX6_carry_11 rfl rfl ?_
    refine j_iload 6 (pc' := 14) hC dX6_carry_12 rfl rfl ?_
    refine j_iadd (pc' := 15) hC dX6_carry_14 rfl ?_
    refine j_aload_n 3 (pc' := 16) hC dX6_carry_15 rfl rfl ?_
    refine j_iload 4 (pc' := 18) hC dX6_carry_16 rfl rfl ?_
    refine j_iload 6 (pc' := 20) hC dX6_carry_18 rfl rfl ?_
    refine j_iadd (pc' := 21) hC dX6_carry_20 rfl ?_
    obtain ⟨g2, h⟩ := jg_s h
    refine j_iald (pc' := 22) hC dX6_carry_21 rfl ho3 g2 ?_
    obtain ⟨g3, h⟩ := jg_s h
    obtain ⟨M4, eM4, h⟩ := jlet_s h
    refine j_iast' (pc' := 23) hC dX6_carry_22 rfl ho1 g3 eM4 ?_
    obtain ⟨v5, ev5, h⟩ := jlet_s h
    refine j_iinc' 6 (c := 1) (pc' := 26) hC dX6_carry_23 rfl rfl rfl ev5 (by decide) rfl ?_
    refine j_goto (tgt := 3) (pc' := 0) hC dX6_carry_26 (by decide) ?_
    refine j_sub [1, 2, 3, 4, 5, 6, 0] rfl ?_
    exact ih _ _ _ _ _ _ _ h hK
theorem lp_X6_carry_L3 {Γ : jG} (hC : jOK Γ cX6_carry 7 RX6 (none) { frames := 0, cells := 0, slots := 0, locals := 0 }) {Q : State → Prop} (o1 : Nat) (n1 : Nat) (o3 : Nat) (n3 : Nat) (ho1 : GM[o1]? = some (0, n1)) (ho3 : GM[o3]? = some (0, n3)) : ∀ (n : Nat) (x2 : Int32) (x4 : Int32) (x5 : Int32) (x6 : Int32) (M : jM) (e6 : Int32) (Me : jM), f_X6_carry_L3 o1 n1 o3 n3 n x2 x4 x5 x6 M = some (e6, Me) → jJ Γ GM RM 29 [(0, .ref (jad Γ 0)), (1, .ref (jad Γ o1)), (2, .int x2), (3, .ref (jad Γ o3)), (4, .int x4), (5, .int x5), (6, .int e6)] [] Me Q → jJ Γ GM RM 3 [(0, .ref (jad Γ 0)), (1, .ref (jad Γ o1)), (2, .int x2), (3, .ref (jad Γ o3)), (4, .int x4), (5, .int x5), (6, .int x6)] [] M Q := by
  intro n
  induction n with
  | zero =>
    intro x2 x4 x5 x6 M e6 Me h hK
    exact jno h
  | succ n ih =>
    intro x2 x4 x5 x6 M e6 Me h hK
    exact lp_X6_carry_L3_b hC o1 n1 o3 n3 ho1 ho3 (f_X6_carry_L3 o1 n1 o3 n3 n) ih x2 x4 x5 x6 M e6 Me h hK
theorem t_X6_carry (l : Launch) (E : jE) {o1 : Nat} {n1 : Nat} {a2 : Int32} {o3 : Nat} {n3 : Nat} {a4 : Int32} {a5 : Int32} (ho1 : GM[o1]? = some (0, n1)) (ho3 : GM[o3]? = some (0, n3)) {M : jM} {M' : jM} (h : f_X6_carry o1 n1 a2 o3 n3 a4 a5 M = some M') : jCv l yX6_carry cX6_carry 7 (none) 0 0 E RM GM (fun a _ => [.ref (a 0), .ref (a o1), .int a2, .ref (a o3), .int a4, .int a5]) M M' := by
  refine jCv_of (own := RX6) (by decide) rfl (fun _ _ => Nat.le_of_ble_eq_true rfl) ?_
  intro Γ hC
  show jJ Γ GM RM 0 [(0, .ref (jad Γ 0)), (1, .ref (jad Γ o1)), (2, .int a2), (3, .ref (jad Γ o3)), (4, .int a4), (5, .int a5)] [] M (jQv Γ RM GM M')
  unfold f_X6_carry at h
  refine j_iconst (v := 0) (pc' := 1) hC dX6_carry_0 rfl rfl ?_
  refine j_istore (pc' := 3) hC dX6_carry_1 rfl rfl (by decide) rfl ?_
  refine j_sub [1, 2, 3, 4, 5, 6, 0] rfl ?_
  obtain ⟨v1, M2, hm3, h⟩ := jb2_s h
  refine lp_X6_carry_L3 hC o1 n1 o3 n3 ho1 ho3 jfu a2 a4 a5 (0 : Int32) M v1 M2 hm3 ?_
  have q8 := jinj1 h
  subst q8
  exact j_vret hC dX6_carry_29
theorem t_X6_keep (l : Launch) (E : jE) {a1 : Int32} {M : jM} {r : Int32} {M' : jM} (h : f_X6_keep a1 M = some (r, M')) : jCi l yX6_keep cX6_keep 2 (some .int) 1 26 E RM GM (fun a _ => [.ref (a 0), .int a1]) M r M' := by
  refine jCi_of (own := RX6) (by decide) rfl (fun _ _ => Nat.le_of_ble_eq_true rfl) ?_
  intro Γ hC
  show jJ Γ GM RM 0 [(0, .ref (jad Γ 0)), (1, .int a1)] [] M (jQi Γ RM GM r M')
  unfold f_X6_keep at h
  refine j_iload_n 1 (pc' := 1) hC dX6_keep_0 rfl rfl ?_
  refine j_i2l (pc' := 2) hC dX6_keep_1 rfl ?_
  refine j_lconst (v := 0) (pc' := 3) hC dX6_keep_2 rfl rfl ?_
  refine j_ldc2 (pc' := 6) hC dX6_keep_3 rfl ck_X6_219 ?_
  obtain ⟨r1, hc2, h⟩ := jb1_s h
  refine j_callSi [.long a1.toInt64, .long (0 : Int64), .long (2 : Int64)] (pc' := 9) hC dX6_keep_6 rfl (t_X6_in _ _ hc2) cs_X6_93 ⟨⟨Nat.le_of_ble_eq_true rfl, Nat.le_of_ble_eq_true rfl⟩, rfl, Nat.le_of_ble_eq_true rfl⟩ rfl rfl ?_
  refine j_if_ne (tgt := 14) (pc' := 12) hC dX6_keep_9 (by decide) rfl (fun c3 => ?_) (fun c3 => ?_)
  · have h := jit_f c3 h
    refine j_aload_n 0 (pc' := 15) hC dX6_keep_14 rfl rfl ?_
    refine j_geti' (pc' := 18) hC dX6_keep_15 rfl fi_X6_156 gm0 ?_
    refine j_if_ne (tgt := 24) (pc' := 21) hC dX6_keep_18 (by decide) rfl (fun c4 => ?_) (fun c4 => ?_)
    · have h := jit_f c4 h
      refine j_aload_n 0 (pc' := 25) hC dX6_keep_24 rfl rfl ?_
      refine j_aload_n 0 (pc' := 26) hC dX6_keep_25 rfl rfl ?_
      refine j_getr' (o2 := 19) (pc' := 29) hC dX6_keep_26 rfl fi_X6_69 gm0 rfl ?_
      refine j_sipush (v := 496) (pc' := 32) hC dX6_keep_29 rfl rfl ?_
      refine j_iload_n 1 (pc' := 33) hC dX6_keep_32 rfl rfl ?_
      refine j_imul (pc' := 34) hC dX6_keep_33 rfl ?_
      refine j_aload_n 0 (pc' := 35) hC dX6_keep_34 rfl rfl ?_
      refine j_getr' (o2 := 13) (pc' := 38) hC dX6_keep_35 rfl fi_X6_46 gm0 rfl ?_
      refine j_iconst (v := 0) (pc' := 39) hC dX6_keep_38 rfl rfl ?_
      refine j_sipush (v := 480) (pc' := 42) hC dX6_keep_39 rfl rfl ?_
      obtain ⟨M5, hc6, h⟩ := jb1_s h
      refine j_callVv [.ref (jad Γ 19), .int ((496 : Int32) * a1), .ref (jad Γ 13), .int (0 : Int32), .int (480 : Int32)] (pc' := 45) hC dX6_keep_42 rfl (t_X6_carry _ _ gm19 gm13 hc6) gm0 vcl6 cv_X6_233 ⟨⟨Nat.le_of_ble_eq_true rfl, Nat.le_of_ble_eq_true rfl⟩, rfl, Nat.le_of_ble_eq_true rfl⟩ rfl rfl ?_
      refine j_aload_n 0 (pc' := 46) hC dX6_keep_45 rfl rfl ?_
      refine j_aload_n 0 (pc' := 47) hC dX6_keep_46 rfl rfl ?_
      refine j_getr' (o2 := 19) (pc' := 50) hC dX6_keep_47 rfl fi_X6_69 gm0 rfl ?_
      refine j_sipush (v := 496) (pc' := 53) hC dX6_keep_50 rfl rfl ?_
      refine j_iload_n 1 (pc' := 54) hC dX6_keep_53 rfl rfl ?_
      refine j_imul (pc' := 55) hC dX6_keep_54 rfl ?_
      refine j_sipush (v := 480) (pc' := 58) hC dX6_keep_55 rfl rfl ?_
      refine j_iadd (pc' := 59) hC dX6_keep_58 rfl ?_
      refine j_aload_n 0 (pc' := 60) hC dX6_keep_59 rfl rfl ?_
      refine j_getr' (o2 := 12) (pc' := 63) hC dX6_keep_60 rfl fi_X6_43 gm0 rfl ?_
      refine j_iconst (v := 0) (pc' := 64) hC dX6_keep_63 rfl rfl ?_
      refine j_bipush (v := 12) (pc' := 66) hC dX6_keep_64 rfl rfl ?_
      obtain ⟨M7, hc8, h⟩ := jb1_s h
      refine j_callVv [.ref (jad Γ 19), .int (((496 : Int32) * a1) + (480 : Int32)), .ref (jad Γ 12), .int (0 : Int32), .int (12 : Int32)] (pc' := 69) hC dX6_keep_66 rfl (t_X6_carry _ _ gm19 gm12 hc8) gm0 vcl6 cv_X6_233 ⟨⟨Nat.le_of_ble_eq_true rfl, Nat.le_of_ble_eq_true rfl⟩, rfl, Nat.le_of_ble_eq_true rfl⟩ rfl rfl ?_
      refine j_aload_n 0 (pc' := 70) hC dX6_keep_69 rfl rfl ?_
      refine j_aload_n 0 (pc' := 71) hC dX6_keep_70 rfl rfl ?_
      refine j_getr' (o2 := 19) (pc' := 74) hC dX6_keep_71 rfl fi_X6_69 gm0 rfl ?_
      refine j_sipush (v := 496) (pc' := 77) hC dX6_keep_74 rfl rfl ?_
      refine j_iload_n 1 (pc' := 78) hC dX6_keep_77 rfl rfl ?_
      refine j_imul (pc' := 79) hC dX6_keep_78 rfl ?_
      refine j_sipush (v := 492) (pc' := 82) hC dX6_keep_79 rfl rfl ?_
      refine j_iadd (pc' := 83) hC dX6_keep_82 rfl ?_
      refine j_aload_n 0 (pc' := 84) hC dX6_keep_83 rfl rfl ?_
      refine j_getr' (o2 := 11) (pc' := 87) hC dX6_keep_84 rfl fi_X6_40 gm0 rfl ?_
      refine j_iconst (v := 0) (pc' := 88) hC dX6_keep_87 rfl rfl ?_
      refine j_iconst (v := 3) (pc' := 89) hC dX6_keep_88 rfl rfl ?_
      obtain ⟨M9, hc10, h⟩ := jb1_s h
      refine j_callVv [.ref (jad Γ 19), .int (((496 : Int32) * a1) + (492 : Int32)), .ref (jad Γ 11), .int (0 : Int32), .int (3 : Int32)] (pc' := 92) hC dX6_keep_89 rfl (t_X6_carry _ _ gm19 gm11 hc10) gm0 vcl6 cv_X6_233 ⟨⟨Nat.le_of_ble_eq_true rfl, Nat.le_of_ble_eq_true rfl⟩, rfl, Nat.le_of_ble_eq_true rfl⟩ rfl rfl ?_
      refine j_aload_n 0 (pc' := 93) hC dX6_keep_92 rfl rfl ?_
      refine j_getr' (o2 := 19) (pc' := 96) hC dX6_keep_93 rfl fi_X6_69 gm0 rfl ?_
      refine j_sipush (v := 496) (pc' := 99) hC dX6_keep_96 rfl rfl ?_
      refine j_iload_n 1 (pc' := 100) hC dX6_keep_99 rfl rfl ?_
      refine j_imul (pc' := 101) hC dX6_keep_100 rfl ?_
      refine j_sipush (v := 495) (pc' := 104) hC dX6_keep_101 rfl rfl ?_
      refine j_iadd (pc' := 105) hC dX6_keep_104 rfl ?_
      refine j_aload_n 0 (pc' := 106) hC dX6_keep_105 rfl rfl ?_
      refine j_geti' (pc' := 109) hC dX6_keep_106 rfl fi_X6_162 gm0 ?_
      obtain ⟨g11, h⟩ := jg_s h
      obtain ⟨M12, eM12, h⟩ := jlet_s h
      refine j_iast' (pc' := 110) hC dX6_keep_109 rfl gm19 g11 eM12 ?_
      refine j_aload_n 0 (pc' := 111) hC dX6_keep_110 rfl rfl ?_
      refine j_getr' (o2 := 18) (pc' := 114) hC dX6_keep_111 rfl fi_X6_65 gm0 rfl ?_
      refine j_iload_n 1 (pc' := 115) hC dX6_keep_114 rfl rfl ?_
      refine j_iconst (v := 1) (pc' := 116) hC dX6_keep_115 rfl rfl ?_
      obtain ⟨g13, h⟩ := jg_s h
      obtain ⟨M14, eM14, h⟩ := jlet_s h
      refine j_zast' (pc' := 117) hC dX6_keep_116 rfl gm18 g13 eM14 ?_
      refine j_aload_n 0 (pc' := 118) hC dX6_keep_117 rfl rfl ?_
      refine j_geti' (pc' := 121) hC dX6_keep_118 rfl fi_X6_162 gm0 ?_
      obtain ⟨q0, q1⟩ := jinj2 h
      subst q0
      subst q1
      exact j_iret hC dX6_keep_121
    · have h := jit_t c4 h
      refine j_bipush (v := -4) (pc' := 23) hC dX6_keep_21 rfl rfl ?_
      obtain ⟨q0, q1⟩ := jinj2 h
      subst q0
      subst q1
      exact j_iret hC dX6_keep_23
  · have h := jit_t c3 h
    refine j_iconst (v := -1) (pc' := 13) hC dX6_keep_12 rfl rfl ?_
    obtain ⟨q0, q1⟩ := jinj2 h
    subst q0
    subst q1
    exact j_iret hC dX6_keep_13
theorem t_X6_on (l : Launch) (E : jE) {a1 : Int32} {M : jM} {r : Int32} {M' : jM} (h : f_X6_on a1 M = some (r, M')) : jCi l yX6_on cX6_on 2 (some .int) 1 26 E RM GM (fun a _ => [.ref (a 0), .int a1]) M r M' := by
  refine jCi_of (own := RX6) (by decide) rfl (fun _ _ => Nat.le_of_ble_eq_true rfl) ?_
  intro Γ hC
  show jJ Γ GM RM 0 [(0, .ref (jad Γ 0)), (1, .int a1)] [] M (jQi Γ RM GM r M')
  unfold f_X6_on at h
  refine j_iload_n 1 (pc' := 1) hC dX6_on_0 rfl rfl ?_
  refine j_i2l (pc' := 2) hC dX6_on_1 rfl ?_
  refine j_lconst (v := 0) (pc' := 3) hC dX6_on_2 rfl rfl ?_
  refine j_ldc2 (pc' := 6) hC dX6_on_3 rfl ck_X6_219 ?_
  obtain ⟨r1, hc2, h⟩ := jb1_s h
  refine j_callSi [.long a1.toInt64, .long (0 : Int64), .long (2 : Int64)] (pc' := 9) hC dX6_on_6 rfl (t_X6_in _ _ hc2) cs_X6_93 ⟨⟨Nat.le_of_ble_eq_true rfl, Nat.le_of_ble_eq_true rfl⟩, rfl, Nat.le_of_ble_eq_true rfl⟩ rfl rfl ?_
  refine j_if_ne (tgt := 14) (pc' := 12) hC dX6_on_9 (by decide) rfl (fun c3 => ?_) (fun c3 => ?_)
  · have h := jit_f c3 h
    refine j_aload_n 0 (pc' := 15) hC dX6_on_14 rfl rfl ?_
    refine j_getr' (o2 := 18) (pc' := 18) hC dX6_on_15 rfl fi_X6_65 gm0 rfl ?_
    refine j_iload_n 1 (pc' := 19) hC dX6_on_18 rfl rfl ?_
    obtain ⟨g4, h⟩ := jg_s h
    refine j_zald (pc' := 20) hC dX6_on_19 rfl gm18 g4 ?_
    refine j_if_ne (tgt := 29) (pc' := 23) hC dX6_on_20 (by decide) rfl (fun c5 => ?_) (fun c5 => ?_)
    · have h := jit_f c5 h
      refine j_aload_n 0 (pc' := 30) hC dX6_on_29 rfl rfl ?_
      refine j_aload_n 0 (pc' := 31) hC dX6_on_30 rfl rfl ?_
      refine j_getr' (o2 := 13) (pc' := 34) hC dX6_on_31 rfl fi_X6_46 gm0 rfl ?_
      refine j_iconst (v := 0) (pc' := 35) hC dX6_on_34 rfl rfl ?_
      refine j_aload_n 0 (pc' := 36) hC dX6_on_35 rfl rfl ?_
      refine j_getr' (o2 := 19) (pc' := 39) hC dX6_on_36 rfl fi_X6_69 gm0 rfl ?_
      refine j_sipush (v := 496) (pc' := 42) hC dX6_on_39 rfl rfl ?_
      refine j_iload_n 1 (pc' := 43) hC dX6_on_42 rfl rfl ?_
      refine j_imul (pc' := 44) hC dX6_on_43 rfl ?_
      refine j_sipush (v := 480) (pc' := 47) hC dX6_on_44 rfl rfl ?_
      obtain ⟨M6, hc7, h⟩ := jb1_s h
      refine j_callVv [.ref (jad Γ 13), .int (0 : Int32), .ref (jad Γ 19), .int ((496 : Int32) * a1), .int (480 : Int32)] (pc' := 50) hC dX6_on_47 rfl (t_X6_carry _ _ gm13 gm19 hc7) gm0 vcl6 cv_X6_233 ⟨⟨Nat.le_of_ble_eq_true rfl, Nat.le_of_ble_eq_true rfl⟩, rfl, Nat.le_of_ble_eq_true rfl⟩ rfl rfl ?_
      refine j_aload_n 0 (pc' := 51) hC dX6_on_50 rfl rfl ?_
      refine j_aload_n 0 (pc' := 52) hC dX6_on_51 rfl rfl ?_
      refine j_getr' (o2 := 12) (pc' := 55) hC dX6_on_52 rfl fi_X6_43 gm0 rfl ?_
      refine j_iconst (v := 0) (pc' := 56) hC dX6_on_55 rfl rfl ?_
      refine j_aload_n 0 (pc' := 57) hC dX6_on_56 rfl rfl ?_
      refine j_getr' (o2 := 19) (pc' := 60) hC dX6_on_57 rfl fi_X6_69 gm0 rfl ?_
      refine j_sipush (v := 496) (pc' := 63) hC dX6_on_60 rfl rfl ?_
      refine j_iload_n 1 (pc' := 64) hC dX6_on_63 rfl rfl ?_
      refine j_imul (pc' := 65) hC dX6_on_64 rfl ?_
      refine j_sipush (v := 480) (pc' := 68) hC dX6_on_65 rfl rfl ?_
      refine j_iadd (pc' := 69) hC dX6_on_68 rfl ?_
      refine j_bipush (v := 12) (pc' := 71) hC dX6_on_69 rfl rfl ?_
      obtain ⟨M8, hc9, h⟩ := jb1_s h
      refine j_callVv [.ref (jad Γ 12), .int (0 : Int32), .ref (jad Γ 19), .int (((496 : Int32) * a1) + (480 : Int32)), .int (12 : Int32)] (pc' := 74) hC dX6_on_71 rfl (t_X6_carry _ _ gm12 gm19 hc9) gm0 vcl6 cv_X6_233 ⟨⟨Nat.le_of_ble_eq_true rfl, Nat.le_of_ble_eq_true rfl⟩, rfl, Nat.le_of_ble_eq_true rfl⟩ rfl rfl ?_
      refine j_aload_n 0 (pc' := 75) hC dX6_on_74 rfl rfl ?_
      refine j_aload_n 0 (pc' := 76) hC dX6_on_75 rfl rfl ?_
      refine j_getr' (o2 := 11) (pc' := 79) hC dX6_on_76 rfl fi_X6_40 gm0 rfl ?_
      refine j_iconst (v := 0) (pc' := 80) hC dX6_on_79 rfl rfl ?_
      refine j_aload_n 0 (pc' := 81) hC dX6_on_80 rfl rfl ?_
      refine j_getr' (o2 := 19) (pc' := 84) hC dX6_on_81 rfl fi_X6_69 gm0 rfl ?_
      refine j_sipush (v := 496) (pc' := 87) hC dX6_on_84 rfl rfl ?_
      refine j_iload_n 1 (pc' := 88) hC dX6_on_87 rfl rfl ?_
      refine j_imul (pc' := 89) hC dX6_on_88 rfl ?_
      refine j_sipush (v := 492) (pc' := 92) hC dX6_on_89 rfl rfl ?_
      refine j_iadd (pc' := 93) hC dX6_on_92 rfl ?_
      refine j_iconst (v := 3) (pc' := 94) hC dX6_on_93 rfl rfl ?_
      obtain ⟨M10, hc11, h⟩ := jb1_s h
      refine j_callVv [.ref (jad Γ 11), .int (0 : Int32), .ref (jad Γ 19), .int (((496 : Int32) * a1) + (492 : Int32)), .int (3 : Int32)] (pc' := 97) hC dX6_on_94 rfl (t_X6_carry _ _ gm11 gm19 hc11) gm0 vcl6 cv_X6_233 ⟨⟨Nat.le_of_ble_eq_true rfl, Nat.le_of_ble_eq_true rfl⟩, rfl, Nat.le_of_ble_eq_true rfl⟩ rfl rfl ?_
      refine j_aload_n 0 (pc' := 98) hC dX6_on_97 rfl rfl ?_
      refine j_aload_n 0 (pc' := 99) hC dX6_on_98 rfl rfl ?_
      refine j_getr' (o2 := 19) (pc' := 102) hC dX6_on_99 rfl fi_X6_69 gm0 rfl ?_
      refine j_sipush (v := 496) (pc' := 105) hC dX6_on_102 rfl rfl ?_
      refine j_iload_n 1 (pc' := 106) hC dX6_on_105 rfl rfl ?_
      refine j_imul (pc' := 107) hC dX6_on_106 rfl ?_
      refine j_sipush (v := 495) (pc' := 110) hC dX6_on_107 rfl rfl ?_
      refine j_iadd (pc' := 111) hC dX6_on_110 rfl ?_
      obtain ⟨g12, h⟩ := jg_s h
      refine j_iald (pc' := 112) hC dX6_on_111 rfl gm19 g12 ?_
      obtain ⟨M13, eM13, h⟩ := jlet_s h
      refine j_puti' (pc' := 115) hC dX6_on_112 rfl fp_X6_162 gm0 eM13 ?_
      refine j_aload_n 0 (pc' := 116) hC dX6_on_115 rfl rfl ?_
      refine j_geti' (pc' := 119) hC dX6_on_116 rfl fi_X6_162 gm0 ?_
      obtain ⟨q0, q1⟩ := jinj2 h
      subst q0
      subst q1
      exact j_iret hC dX6_on_119
    · have h := jit_t c5 h
      refine j_aload_n 0 (pc' := 24) hC dX6_on_23 rfl rfl ?_
      refine j_iconst (v := 1) (pc' := 25) hC dX6_on_24 rfl rfl ?_
      obtain ⟨r14, M15, hc16, h⟩ := jb2_s h
      refine j_callVi [.int (1 : Int32)] (pc' := 28) hC dX6_on_25 rfl (t_X6_find _ _ hc16) gm0 vcl6 cv_X6_103 ⟨⟨Nat.le_of_ble_eq_true rfl, Nat.le_of_ble_eq_true rfl⟩, rfl, Nat.le_of_ble_eq_true rfl⟩ rfl rfl ?_
      obtain ⟨q0, q1⟩ := jinj2 h
      subst q0
      subst q1
      exact j_iret hC dX6_on_28
  · have h := jit_t c3 h
    refine j_iconst (v := -1) (pc' := 13) hC dX6_on_12 rfl rfl ?_
    obtain ⟨q0, q1⟩ := jinj2 h
    subst q0
    subst q1
    exact j_iret hC dX6_on_13
theorem lp_X6_can_L14_b {Γ : jG} (hC : jOK Γ cX6_can 4 RX6 (some .int) { frames := 5, cells := 0, slots := 0, locals := 114 }) {Q : State → Prop} (rec : Int32 → Int32 → Int32 → jM → Option (Int32 × Int32)) (ih : ∀ (x1 : Int32) (x2 : Int32) (x3 : Int32) (M : jM) (e2 : Int32) (e3 : Int32), rec x1 x2 x3 M = some (e2, e3) → jJ Γ GM RM 47 [(0, .ref (jad Γ 0)), (1, .int x1), (2, .int e2), (3, .int e3)] [] M Q → jJ Γ GM RM 14 [(0, .ref (jad Γ 0)), (1, .int x1), (2, .int x2), (3, .int x3)] [] M Q) (x1 : Int32) (x2 : Int32) (x3 : Int32) (M : jM) (e2 : Int32) (e3 : Int32) (h : f_X6_can_L14_b rec x1 x2 x3 M = some (e2, e3)) (hK : jJ Γ GM RM 47 [(0, .ref (jad Γ 0)), (1, .int x1), (2, .int e2), (3, .int e3)] [] M Q) : jJ Γ GM RM 14 [(0, .ref (jad Γ 0)), (1, .int x1), (2, .int x2), (3, .int x3)] [] M Q := by
  unfold f_X6_can_L14_b at h
  refine j_iload_n 3 (pc' := 15) hC dX6_can_14 rfl rfl ?_
  refine j_aload_n 0 (pc' := 16) hC dX6_can_15 rfl rfl ?_
  refine j_geti' (pc' := 19) hC dX6_can_16 rfl fi_X6_156 gm0 ?_
  refine j_icmp_ge (tgt := 47) (pc' := 22) hC dX6_can_19 (by decide) rfl (fun c1 => ?_) (fun c1 => ?_)
  · have h := jit_t c1 h
    obtain ⟨q0, q1⟩ := jinj2 h
    subst q0
    subst q1
    refine j_sub [0, 1, 2, 3] rfl ?_
    exact hK
  · have h := jit_f c1 h
    refine j_iload_n 2 (pc' := 23) hC dX6_can_22 rfl rfl ?_
    refine j_aload_n 0 (pc' := 24) hC dX6_can_23 rfl rfl ?_
    refine j_iload_n 3 (pc' := 25) hC dX6_can_24 rfl rfl ?_
    refine j_iload_n 1 (pc' := 26) hC dX6_can_25 rfl rfl ?_
    obtain ⟨r2, hc3, h⟩ := jb1_s h
    refine j_callVi [.int x3, .int x1] (pc' := 29) hC dX6_can_26 rfl (t_X6_canNow _ _ hc3) gm0 vcl6 cv_X6_216 ⟨⟨Nat.le_of_ble_eq_true rfl, Nat.le_of_ble_eq_true rfl⟩, rfl, Nat.le_of_ble_eq_true rfl⟩ rfl rfl ?_
    obtain ⟨v5, hm7, h⟩ := jlet_s h
    have K6 : jJ Γ GM RM 39 [(0, .ref (jad Γ 0)), (1, .int x1), (2, .int x2), (3, .int x3)] [.int v5, .int x2] M Q := by
      refine j_ior (pc' := 40) hC dX6_can_39 rfl ?_
      obtain ⟨v9, ev9, h⟩ := jlet_s h
      refine j_istore_n (pc' := 41) hC dX6_can_40 rfl ev9 (by decide) rfl ?_
      obtain ⟨v10, ev10, h⟩ := jlet_s h
      refine j_iinc' 3 (c := 1) (pc' := 44) hC dX6_can_41 rfl rfl rfl ev10 (by decide) rfl ?_
      refine j_goto (tgt := 14) (pc' := 0) hC dX6_can_44 (by decide) ?_
      refine j_sub [2, 3, 1, 0] rfl ?_
      exact ih _ _ _ _ _ _ h hK
    refine j_if_eq (tgt := 38) (pc' := 32) hC dX6_can_29 (by decide) rfl (fun c8 => ?_) (fun c8 => ?_)
    · have hm7 := jit_t c8 hm7
      refine j_iconst (v := 0) (pc' := 39) hC dX6_can_38 rfl rfl ?_
      subst hm7
      exact j_sub [0, 1, 2, 3] rfl K6
    · have hm7 := jit_f c8 hm7
      refine j_iconst (v := 1) (pc' := 33) hC dX6_can_32 rfl rfl ?_
      refine j_iload_n 3 (pc' := 34) hC dX6_can_33 rfl rfl ?_
      refine j_ishl (pc' := 35) hC dX6_can_34 rfl ?_
      refine j_goto (tgt := 39) (pc' := 0) hC dX6_can_35 (by decide) ?_
      subst hm7
      exact j_sub [0, 1, 2, 3] rfl K6
theorem lp_X6_can_L14 {Γ : jG} (hC : jOK Γ cX6_can 4 RX6 (some .int) { frames := 5, cells := 0, slots := 0, locals := 114 }) {Q : State → Prop} : ∀ (n : Nat) (x1 : Int32) (x2 : Int32) (x3 : Int32) (M : jM) (e2 : Int32) (e3 : Int32), f_X6_can_L14 n x1 x2 x3 M = some (e2, e3) → jJ Γ GM RM 47 [(0, .ref (jad Γ 0)), (1, .int x1), (2, .int e2), (3, .int e3)] [] M Q → jJ Γ GM RM 14 [(0, .ref (jad Γ 0)), (1, .int x1), (2, .int x2), (3, .int x3)] [] M Q := by
  intro n
  induction n with
  | zero =>
    intro x1 x2 x3 M e2 e3 h hK
    exact jno h
  | succ n ih =>
    intro x1 x2 x3 M e2 e3 h hK
    exact lp_X6_can_L14_b hC (f_X6_can_L14 n) ih x1 x2 x3 M e2 e3 h hK
theorem t_X6_can (l : Launch) (E : jE) {a1 : Int32} {M : jM} {r : Int32} (h : f_X6_can a1 M = some r) : jCi l yX6_can cX6_can 4 (some .int) 5 114 E RM GM (fun a _ => [.ref (a 0), .int a1]) M r M := by
  refine jCi_of (own := RX6) (by decide) rfl (fun _ _ => Nat.le_of_ble_eq_true rfl) ?_
  intro Γ hC
  show jJ Γ GM RM 0 [(0, .ref (jad Γ 0)), (1, .int a1)] [] M (jQi Γ RM GM r M)
  unfold f_X6_can at h
  refine j_aload_n 0 (pc' := 1) hC dX6_can_0 rfl rfl ?_
  refine j_iload_n 1 (pc' := 2) hC dX6_can_1 rfl rfl ?_
  obtain ⟨r1, hc2, h⟩ := jb1_s h
  refine j_callVi [.int a1] (pc' := 5) hC dX6_can_2 rfl (t_X6_isHour _ _ hc2) gm0 vcl6 cv_X6_189 ⟨⟨Nat.le_of_ble_eq_true rfl, Nat.le_of_ble_eq_true rfl⟩, rfl, Nat.le_of_ble_eq_true rfl⟩ rfl rfl ?_
  refine j_if_ne (tgt := 10) (pc' := 8) hC dX6_can_5 (by decide) rfl (fun c3 => ?_) (fun c3 => ?_)
  · have h := jit_f c3 h
    refine j_iconst (v := 0) (pc' := 11) hC dX6_can_10 rfl rfl ?_
    refine j_istore_n (pc' := 12) hC dX6_can_11 rfl rfl (by decide) rfl ?_
    refine j_iconst (v := 0) (pc' := 13) hC dX6_can_12 rfl rfl ?_
    refine j_istore_n (pc' := 14) hC dX6_can_13 rfl rfl (by decide) rfl ?_
    refine j_sub [2, 3, 1, 0] rfl ?_
    obtain ⟨v4, v5, hm6, h⟩ := jb2_s h
    refine lp_X6_can_L14 hC  jfu a1 (0 : Int32) (0 : Int32) M v4 v5 hm6 ?_
    refine j_iload_n 2 (pc' := 48) hC dX6_can_47 rfl rfl ?_
    have q8 := jinj1 h
    subst q8
    exact j_iret hC dX6_can_48
  · have h := jit_t c3 h
    refine j_iconst (v := -1) (pc' := 9) hC dX6_can_8 rfl rfl ?_
    have q8 := jinj1 h
    subst q8
    exact j_iret hC dX6_can_9
theorem lp_X6_why_L62_b {Γ : jG} (hC : jOK Γ cX6_why 5 RX6 (some .int) { frames := 3, cells := 0, slots := 0, locals := 68 }) {Q : State → Prop} (x1 : Int32) (x2 : Int32) (rec : Int32 → Int32 → jM → Option (Int32)) (ih : ∀ (x3 : Int32) (x4 : Int32) (M : jM) (e4 : Int32), rec x3 x4 M = some e4 → jJ Γ GM RM 77 [(0, .ref (jad Γ 0)), (1, .int x1), (2, .int x2), (3, .int x3), (4, .int e4)] [] M Q → jJ Γ GM RM 62 [(0, .ref (jad Γ 0)), (1, .int x1), (2, .int x2), (3, .int x3), (4, .int x4)] [] M Q) (x3 : Int32) (x4 : Int32) (M : jM) (e4 : Int32) (h : f_X6_why_L62_b rec x3 x4 M = some e4) (hK : jJ Γ GM RM 77 [(0, .ref (jad Γ 0)), (1, .int x1), (2, .int x2), (3, .int x3), (4, .int e4)] [] M Q) : jJ Γ GM RM 62 [(0, .ref (jad Γ 0)), (1, .int x1), (2, .int x2), (3, .int x3), (4, .int x4)] [] M Q := by
  unfold f_X6_why_L62_b at h
  refine j_iload_n 3 (pc' := 63) hC dX6_why_62 rfl rfl ?_
  refine j_iload 4 (pc' := 65) hC dX6_why_63 rfl rfl ?_
  obtain ⟨r1, hc2, h⟩ := jb1_s h
  refine j_callSi [.int x3, .int x4] (pc' := 68) hC dX6_why_65 rfl (t_X6_has _ _ hc2) cs_X6_136 ⟨⟨Nat.le_of_ble_eq_true rfl, Nat.le_of_ble_eq_true rfl⟩, rfl, Nat.le_of_ble_eq_true rfl⟩ rfl rfl ?_
  refine j_if_ne (tgt := 77) (pc' := 71) hC dX6_why_68 (by decide) rfl (fun c3 => ?_) (fun c3 => ?_)
  · have h := jit_f c3 h
    have q8 := jinj1 h
    subst q8
    refine j_sub [0, 1, 2, 3, 4] rfl ?_
    exact hK
  · have h := jit_t c3 h
    obtain ⟨v4, ev4, h⟩ := jlet_s h
    refine j_iinc' 4 (c := 1) (pc' := 74) hC dX6_why_71 rfl rfl rfl ev4 (by decide) rfl ?_
    refine j_goto (tgt := 62) (pc' := 0) hC dX6_why_74 (by decide) ?_
    refine j_sub [1, 2, 3, 4, 0] rfl ?_
    exact ih _ _ _ _ h hK
theorem lp_X6_why_L62 {Γ : jG} (hC : jOK Γ cX6_why 5 RX6 (some .int) { frames := 3, cells := 0, slots := 0, locals := 68 }) {Q : State → Prop} (x1 : Int32) (x2 : Int32) : ∀ (n : Nat) (x3 : Int32) (x4 : Int32) (M : jM) (e4 : Int32), f_X6_why_L62 n x3 x4 M = some e4 → jJ Γ GM RM 77 [(0, .ref (jad Γ 0)), (1, .int x1), (2, .int x2), (3, .int x3), (4, .int e4)] [] M Q → jJ Γ GM RM 62 [(0, .ref (jad Γ 0)), (1, .int x1), (2, .int x2), (3, .int x3), (4, .int x4)] [] M Q := by
  intro n
  induction n with
  | zero =>
    intro x3 x4 M e4 h hK
    exact jno h
  | succ n ih =>
    intro x3 x4 M e4 h hK
    exact lp_X6_why_L62_b hC x1 x2 (f_X6_why_L62 n) ih x3 x4 M e4 h hK
theorem t_X6_why (l : Launch) (E : jE) {a1 : Int32} {a2 : Int32} {M : jM} {r : Int32} {M' : jM} (h : f_X6_why a1 a2 M = some (r, M')) : jCi l yX6_why cX6_why 5 (some .int) 3 68 E RM GM (fun a _ => [.ref (a 0), .int a1, .int a2]) M r M' := by
  refine jCi_of (own := RX6) (by decide) rfl (fun _ _ => Nat.le_of_ble_eq_true rfl) ?_
  intro Γ hC
  show jJ Γ GM RM 0 [(0, .ref (jad Γ 0)), (1, .int a1), (2, .int a2)] [] M (jQi Γ RM GM r M')
  unfold f_X6_why at h
  refine j_aload_n 0 (pc' := 1) hC dX6_why_0 rfl rfl ?_
  refine j_iload_n 1 (pc' := 2) hC dX6_why_1 rfl rfl ?_
  obtain ⟨r1, hc2, h⟩ := jb1_s h
  refine j_callVi [.int a1] (pc' := 5) hC dX6_why_2 rfl (t_X6_isDeed _ _ hc2) gm0 vcl6 cv_X6_168 ⟨⟨Nat.le_of_ble_eq_true rfl, Nat.le_of_ble_eq_true rfl⟩, rfl, Nat.le_of_ble_eq_true rfl⟩ rfl rfl ?_
  refine j_if_eq (tgt := 16) (pc' := 8) hC dX6_why_5 (by decide) rfl (fun c3 => ?_) (fun c3 => ?_)
  · have h := jit_t c3 h
    refine j_iconst (v := -1) (pc' := 17) hC dX6_why_16 rfl rfl ?_
    obtain ⟨q0, q1⟩ := jinj2 h
    subst q0
    subst q1
    exact j_iret hC dX6_why_17
  · have h := jit_f c3 h
    refine j_aload_n 0 (pc' := 9) hC dX6_why_8 rfl rfl ?_
    refine j_iload_n 2 (pc' := 10) hC dX6_why_9 rfl rfl ?_
    obtain ⟨r4, hc5, h⟩ := jb1_s h
    refine j_callVi [.int a2] (pc' := 13) hC dX6_why_10 rfl (t_X6_isHour _ _ hc5) gm0 vcl6 cv_X6_189 ⟨⟨Nat.le_of_ble_eq_true rfl, Nat.le_of_ble_eq_true rfl⟩, rfl, Nat.le_of_ble_eq_true rfl⟩ rfl rfl ?_
    refine j_if_ne (tgt := 18) (pc' := 16) hC dX6_why_13 (by decide) rfl (fun c6 => ?_) (fun c6 => ?_)
    · have h := jit_f c6 h
      refine j_aload_n 0 (pc' := 19) hC dX6_why_18 rfl rfl ?_
      refine j_getr' (o2 := 12) (pc' := 22) hC dX6_why_19 rfl fi_X6_43 gm0 rfl ?_
      refine j_iconst (v := 3) (pc' := 23) hC dX6_why_22 rfl rfl ?_
      refine j_iald (pc' := 24) hC dX6_why_23 rfl gm12 (by decide) ?_
      refine j_iload_n 1 (pc' := 25) hC dX6_why_24 rfl rfl ?_
      obtain ⟨r7, hc8, h⟩ := jb1_s h
      refine j_callSi [.int (gi M 12 (3 : Int32).toNatClampNeg), .int a1] (pc' := 28) hC dX6_why_25 rfl (t_X6_has _ _ hc8) cs_X6_136 ⟨⟨Nat.le_of_ble_eq_true rfl, Nat.le_of_ble_eq_true rfl⟩, rfl, Nat.le_of_ble_eq_true rfl⟩ rfl rfl ?_
      refine j_if_eq (tgt := 39) (pc' := 31) hC dX6_why_28 (by decide) rfl (fun c9 => ?_) (fun c9 => ?_)
      · have h := jit_t c9 h
        refine j_aload_n 0 (pc' := 40) hC dX6_why_39 rfl rfl ?_
        refine j_getr' (o2 := 7) (pc' := 43) hC dX6_why_40 rfl fi_X6_28 gm0 rfl ?_
        refine j_iload_n 1 (pc' := 44) hC dX6_why_43 rfl rfl ?_
        obtain ⟨g10, h⟩ := jg_s h
        refine j_iald (pc' := 45) hC dX6_why_44 rfl gm7 g10 ?_
        refine j_aload_n 0 (pc' := 46) hC dX6_why_45 rfl rfl ?_
        refine j_getr' (o2 := 12) (pc' := 49) hC dX6_why_46 rfl fi_X6_43 gm0 rfl ?_
        refine j_iconst (v := 3) (pc' := 50) hC dX6_why_49 rfl rfl ?_
        refine j_iald (pc' := 51) hC dX6_why_50 rfl gm12 (by decide) ?_
        refine j_iconst (v := -1) (pc' := 52) hC dX6_why_51 rfl rfl ?_
        refine j_ixor (pc' := 53) hC dX6_why_52 rfl ?_
        refine j_iand (pc' := 54) hC dX6_why_53 rfl ?_
        obtain ⟨v11, ev11, h⟩ := jlet_s h
        refine j_istore_n (pc' := 55) hC dX6_why_54 rfl ev11 (by decide) rfl ?_
        refine j_iload_n 0 (pc' := 56) hC dX6_why_55 rfl rfl ?_
        refine j_if_eq (tgt := 85) (pc' := 59) hC dX6_why_56 (by decide) rfl (fun c12 => ?_) (fun c12 => ?_)
        · have h := jit_t c12 h
          refine j_aload_n 1 (pc' := 86) hC dX6_why_85 rfl rfl ?_
          refine j_aload_n 1 (pc' := 87) hC dX6_why_86 rfl rfl ?_
          refine j_iload_n 2 (pc' := 88) hC dX6_why_87 rfl rfl ?_
          refine j_iload_n 3 (pc' := 89) hC dX6_why_88 rfl rfl ?_
          obtain ⟨r13, hc14, h⟩ := jb1_s h
          refine j_callVi [.int a1, .int a2] (pc' := 92) hC dX6_why_89 rfl (t_X6_isLight _ _ hc14) gm0 vcl6 cv_X6_203 ⟨⟨Nat.le_of_ble_eq_true rfl, Nat.le_of_ble_eq_true rfl⟩, rfl, Nat.le_of_ble_eq_true rfl⟩ rfl rfl ?_
          obtain ⟨v19, hm21, h⟩ := jb1_s h
          have K20 : jJ Γ GM RM 125 [(0, .ref (jad Γ 0)), (1, .int a1), (2, .int a2), (3, .int v11)] [.int v19, .ref (jad Γ 0)] M (jQi Γ RM GM r M') := by
            refine j_bipush (v := -9) (pc' := 127) hC dX6_why_125 rfl rfl ?_
            obtain ⟨r26, M27, hc28, h⟩ := jb2_s h
            refine j_callVi [.int v19, .int (-9 : Int32)] (pc' := 130) hC dX6_why_127 rfl (t_X6_answer _ _ hc28) gm0 vcl6 cv_X6_111 ⟨⟨Nat.le_of_ble_eq_true rfl, Nat.le_of_ble_eq_true rfl⟩, rfl, Nat.le_of_ble_eq_true rfl⟩ rfl rfl ?_
            obtain ⟨q0, q1⟩ := jinj2 h
            subst q0
            subst q1
            exact j_iret hC dX6_why_130
          refine j_if_ne (tgt := 99) (pc' := 95) hC dX6_why_92 (by decide) rfl (fun c22 => ?_) (fun c22 => ?_)
          · have hm21 := jit_f c22 hm21
            refine j_aload_n 1 (pc' := 100) hC dX6_why_99 rfl rfl ?_
            refine j_iload_n 2 (pc' := 101) hC dX6_why_100 rfl rfl ?_
            refine j_iload_n 3 (pc' := 102) hC dX6_why_101 rfl rfl ?_
            refine j_aload_n 1 (pc' := 103) hC dX6_why_102 rfl rfl ?_
            refine j_getr' (o2 := 12) (pc' := 106) hC dX6_why_103 rfl fi_X6_43 gm0 rfl ?_
            refine j_iconst (v := 3) (pc' := 107) hC dX6_why_106 rfl rfl ?_
            refine j_iald (pc' := 108) hC dX6_why_107 rfl gm12 (by decide) ?_
            refine j_aload_n 1 (pc' := 109) hC dX6_why_108 rfl rfl ?_
            refine j_getr' (o2 := 12) (pc' := 112) hC dX6_why_109 rfl fi_X6_43 gm0 rfl ?_
            refine j_iconst (v := 4) (pc' := 113) hC dX6_why_112 rfl rfl ?_
            refine j_iald (pc' := 114) hC dX6_why_113 rfl gm12 (by decide) ?_
            obtain ⟨r23, hc24, hm21⟩ := jb1_s hm21
            refine j_callVi [.int a1, .int a2, .int (gi M 12 (3 : Int32).toNatClampNeg), .int (gi M 12 (4 : Int32).toNatClampNeg)] (pc' := 117) hC dX6_why_114 rfl (t_X6_isAsKind _ _ hc24) gm0 vcl6 cv_X6_206 ⟨⟨Nat.le_of_ble_eq_true rfl, Nat.le_of_ble_eq_true rfl⟩, rfl, Nat.le_of_ble_eq_true rfl⟩ rfl rfl ?_
            refine j_if_eq (tgt := 124) (pc' := 120) hC dX6_why_117 (by decide) rfl (fun c25 => ?_) (fun c25 => ?_)
            · have hm21 := jit_t c25 hm21
              refine j_iconst (v := 4) (pc' := 125) hC dX6_why_124 rfl rfl ?_
              have q8 := jinj1 hm21
              subst q8
              exact j_sub [1, 2, 3, 0] rfl K20
            · have hm21 := jit_f c25 hm21
              refine j_iconst (v := 0) (pc' := 121) hC dX6_why_120 rfl rfl ?_
              refine j_goto (tgt := 125) (pc' := 0) hC dX6_why_121 (by decide) ?_
              have q8 := jinj1 hm21
              subst q8
              exact j_sub [1, 2, 3, 0] rfl K20
          · have hm21 := jit_t c22 hm21
            refine j_iconst (v := 3) (pc' := 96) hC dX6_why_95 rfl rfl ?_
            refine j_goto (tgt := 125) (pc' := 0) hC dX6_why_96 (by decide) ?_
            have q8 := jinj1 hm21
            subst q8
            exact j_sub [1, 2, 3, 0] rfl K20
        · have h := jit_f c12 h
          refine j_iconst (v := 0) (pc' := 60) hC dX6_why_59 rfl rfl ?_
          refine j_istore (pc' := 62) hC dX6_why_60 rfl rfl (by decide) rfl ?_
          refine j_sub [2, 3, 4, 1, 0] rfl ?_
          obtain ⟨v29, hm30, h⟩ := jb1_s h
          refine lp_X6_why_L62 hC a1 a2 jfu v11 (0 : Int32) M v29 hm30 ?_
          refine j_aload_n 0 (pc' := 78) hC dX6_why_77 rfl rfl ?_
          refine j_iconst (v := 2) (pc' := 79) hC dX6_why_78 rfl rfl ?_
          refine j_iload 4 (pc' := 81) hC dX6_why_79 rfl rfl ?_
          obtain ⟨r31, M32, hc33, h⟩ := jb2_s h
          refine j_callVi [.int (2 : Int32), .int v29] (pc' := 84) hC dX6_why_81 rfl (t_X6_answer _ _ hc33) gm0 vcl6 cv_X6_111 ⟨⟨Nat.le_of_ble_eq_true rfl, Nat.le_of_ble_eq_true rfl⟩, rfl, Nat.le_of_ble_eq_true rfl⟩ rfl rfl ?_
          obtain ⟨q0, q1⟩ := jinj2 h
          subst q0
          subst q1
          exact j_iret hC dX6_why_84
      · have h := jit_f c9 h
        refine j_aload_n 0 (pc' := 32) hC dX6_why_31 rfl rfl ?_
        refine j_iconst (v := 1) (pc' := 33) hC dX6_why_32 rfl rfl ?_
        refine j_bipush (v := -9) (pc' := 35) hC dX6_why_33 rfl rfl ?_
        obtain ⟨r34, M35, hc36, h⟩ := jb2_s h
        refine j_callVi [.int (1 : Int32), .int (-9 : Int32)] (pc' := 38) hC dX6_why_35 rfl (t_X6_answer _ _ hc36) gm0 vcl6 cv_X6_111 ⟨⟨Nat.le_of_ble_eq_true rfl, Nat.le_of_ble_eq_true rfl⟩, rfl, Nat.le_of_ble_eq_true rfl⟩ rfl rfl ?_
        obtain ⟨q0, q1⟩ := jinj2 h
        subst q0
        subst q1
        exact j_iret hC dX6_why_38
    · have h := jit_t c6 h
      refine j_iconst (v := -1) (pc' := 17) hC dX6_why_16 rfl rfl ?_
      obtain ⟨q0, q1⟩ := jinj2 h
      subst q0
      subst q1
      exact j_iret hC dX6_why_17
theorem lp_X6_opens_L14_b {Γ : jG} (hC : jOK Γ cX6_opens 4 RX6 (some .int) { frames := 2, cells := 0, slots := 0, locals := 46 }) {Q : State → Prop} (rec : Int32 → Int32 → Int32 → jM → Option (Int32 × Int32)) (ih : ∀ (x1 : Int32) (x2 : Int32) (x3 : Int32) (M : jM) (e2 : Int32) (e3 : Int32), rec x1 x2 x3 M = some (e2, e3) → jJ Γ GM RM 50 [(0, .ref (jad Γ 0)), (1, .int x1), (2, .int e2), (3, .int e3)] [] M Q → jJ Γ GM RM 14 [(0, .ref (jad Γ 0)), (1, .int x1), (2, .int x2), (3, .int x3)] [] M Q) (x1 : Int32) (x2 : Int32) (x3 : Int32) (M : jM) (e2 : Int32) (e3 : Int32) (h : f_X6_opens_L14_b rec x1 x2 x3 M = some (e2, e3)) (hK : jJ Γ GM RM 50 [(0, .ref (jad Γ 0)), (1, .int x1), (2, .int e2), (3, .int e3)] [] M Q) : jJ Γ GM RM 14 [(0, .ref (jad Γ 0)), (1, .int x1), (2, .int x2), (3, .int x3)] [] M Q := by
  unfold f_X6_opens_L14_b at h
  refine j_iload_n 3 (pc' := 15) hC dX6_opens_14 rfl rfl ?_
  refine j_aload_n 0 (pc' := 16) hC dX6_opens_15 rfl rfl ?_
  refine j_geti' (pc' := 19) hC dX6_opens_16 rfl fi_X6_156 gm0 ?_
  refine j_icmp_ge (tgt := 50) (pc' := 22) hC dX6_opens_19 (by decide) rfl (fun c1 => ?_) (fun c1 => ?_)
  · have h := jit_t c1 h
    obtain ⟨q0, q1⟩ := jinj2 h
    subst q0
    subst q1
    refine j_sub [0, 1, 2, 3] rfl ?_
    exact hK
  · have h := jit_f c1 h
    refine j_iload_n 2 (pc' := 23) hC dX6_opens_22 rfl rfl ?_
    refine j_aload_n 0 (pc' := 24) hC dX6_opens_23 rfl rfl ?_
    refine j_iload_n 3 (pc' := 25) hC dX6_opens_24 rfl rfl ?_
    obtain ⟨r2, hc3, h⟩ := jb1_s h
    refine j_callVi [.int x3] (pc' := 28) hC dX6_opens_25 rfl (t_X6_allNeeds _ _ hc3) gm0 vcl6 cv_X6_165 ⟨⟨Nat.le_of_ble_eq_true rfl, Nat.le_of_ble_eq_true rfl⟩, rfl, Nat.le_of_ble_eq_true rfl⟩ rfl rfl ?_
    refine j_iload_n 1 (pc' := 29) hC dX6_opens_28 rfl rfl ?_
    obtain ⟨r4, hc5, h⟩ := jb1_s h
    refine j_callSi [.int r2, .int x1] (pc' := 32) hC dX6_opens_29 rfl (t_X6_has _ _ hc5) cs_X6_136 ⟨⟨Nat.le_of_ble_eq_true rfl, Nat.le_of_ble_eq_true rfl⟩, rfl, Nat.le_of_ble_eq_true rfl⟩ rfl rfl ?_
    obtain ⟨v7, hm9, h⟩ := jlet_s h
    have K8 : jJ Γ GM RM 42 [(0, .ref (jad Γ 0)), (1, .int x1), (2, .int x2), (3, .int x3)] [.int v7, .int x2] M Q := by
      refine j_ior (pc' := 43) hC dX6_opens_42 rfl ?_
      obtain ⟨v11, ev11, h⟩ := jlet_s h
      refine j_istore_n (pc' := 44) hC dX6_opens_43 rfl ev11 (by decide) rfl ?_
      obtain ⟨v12, ev12, h⟩ := jlet_s h
      refine j_iinc' 3 (c := 1) (pc' := 47) hC dX6_opens_44 rfl rfl rfl ev12 (by decide) rfl ?_
      refine j_goto (tgt := 14) (pc' := 0) hC dX6_opens_47 (by decide) ?_
      refine j_sub [2, 3, 1, 0] rfl ?_
      exact ih _ _ _ _ _ _ h hK
    refine j_if_eq (tgt := 41) (pc' := 35) hC dX6_opens_32 (by decide) rfl (fun c10 => ?_) (fun c10 => ?_)
    · have hm9 := jit_t c10 hm9
      refine j_iconst (v := 0) (pc' := 42) hC dX6_opens_41 rfl rfl ?_
      subst hm9
      exact j_sub [0, 1, 2, 3] rfl K8
    · have hm9 := jit_f c10 hm9
      refine j_iconst (v := 1) (pc' := 36) hC dX6_opens_35 rfl rfl ?_
      refine j_iload_n 3 (pc' := 37) hC dX6_opens_36 rfl rfl ?_
      refine j_ishl (pc' := 38) hC dX6_opens_37 rfl ?_
      refine j_goto (tgt := 42) (pc' := 0) hC dX6_opens_38 (by decide) ?_
      subst hm9
      exact j_sub [0, 1, 2, 3] rfl K8
theorem lp_X6_opens_L14 {Γ : jG} (hC : jOK Γ cX6_opens 4 RX6 (some .int) { frames := 2, cells := 0, slots := 0, locals := 46 }) {Q : State → Prop} : ∀ (n : Nat) (x1 : Int32) (x2 : Int32) (x3 : Int32) (M : jM) (e2 : Int32) (e3 : Int32), f_X6_opens_L14 n x1 x2 x3 M = some (e2, e3) → jJ Γ GM RM 50 [(0, .ref (jad Γ 0)), (1, .int x1), (2, .int e2), (3, .int e3)] [] M Q → jJ Γ GM RM 14 [(0, .ref (jad Γ 0)), (1, .int x1), (2, .int x2), (3, .int x3)] [] M Q := by
  intro n
  induction n with
  | zero =>
    intro x1 x2 x3 M e2 e3 h hK
    exact jno h
  | succ n ih =>
    intro x1 x2 x3 M e2 e3 h hK
    exact lp_X6_opens_L14_b hC (f_X6_opens_L14 n) ih x1 x2 x3 M e2 e3 h hK
theorem t_X6_opens (l : Launch) (E : jE) {a1 : Int32} {M : jM} {r : Int32} {M' : jM} (h : f_X6_opens a1 M = some (r, M')) : jCi l yX6_opens cX6_opens 4 (some .int) 2 46 E RM GM (fun a _ => [.ref (a 0), .int a1]) M r M' := by
  refine jCi_of (own := RX6) (by decide) rfl (fun _ _ => Nat.le_of_ble_eq_true rfl) ?_
  intro Γ hC
  show jJ Γ GM RM 0 [(0, .ref (jad Γ 0)), (1, .int a1)] [] M (jQi Γ RM GM r M')
  unfold f_X6_opens at h
  refine j_aload_n 0 (pc' := 1) hC dX6_opens_0 rfl rfl ?_
  refine j_iload_n 1 (pc' := 2) hC dX6_opens_1 rfl rfl ?_
  obtain ⟨r1, hc2, h⟩ := jb1_s h
  refine j_callVi [.int a1] (pc' := 5) hC dX6_opens_2 rfl (t_X6_isDeed _ _ hc2) gm0 vcl6 cv_X6_168 ⟨⟨Nat.le_of_ble_eq_true rfl, Nat.le_of_ble_eq_true rfl⟩, rfl, Nat.le_of_ble_eq_true rfl⟩ rfl rfl ?_
  refine j_if_ne (tgt := 10) (pc' := 8) hC dX6_opens_5 (by decide) rfl (fun c3 => ?_) (fun c3 => ?_)
  · have h := jit_f c3 h
    refine j_iconst (v := 0) (pc' := 11) hC dX6_opens_10 rfl rfl ?_
    refine j_istore_n (pc' := 12) hC dX6_opens_11 rfl rfl (by decide) rfl ?_
    refine j_iconst (v := 0) (pc' := 13) hC dX6_opens_12 rfl rfl ?_
    refine j_istore_n (pc' := 14) hC dX6_opens_13 rfl rfl (by decide) rfl ?_
    refine j_sub [2, 3, 1, 0] rfl ?_
    obtain ⟨v4, v5, hm6, h⟩ := jb2_s h
    refine lp_X6_opens_L14 hC  jfu a1 (0 : Int32) (0 : Int32) M v4 v5 hm6 ?_
    refine j_aload_n 0 (pc' := 51) hC dX6_opens_50 rfl rfl ?_
    refine j_iload_n 2 (pc' := 52) hC dX6_opens_51 rfl rfl ?_
    obtain ⟨r7, hc8, h⟩ := jb1_s h
    refine j_callSi [.int v4] (pc' := 55) hC dX6_opens_52 rfl (t_X6_ones _ _ hc8) cs_X6_200 ⟨⟨Nat.le_of_ble_eq_true rfl, Nat.le_of_ble_eq_true rfl⟩, rfl, Nat.le_of_ble_eq_true rfl⟩ rfl rfl ?_
    refine j_iload_n 2 (pc' := 56) hC dX6_opens_55 rfl rfl ?_
    obtain ⟨r9, M10, hc11, h⟩ := jb2_s h
    refine j_callVi [.int r7, .int v4] (pc' := 59) hC dX6_opens_56 rfl (t_X6_answer _ _ hc11) gm0 vcl6 cv_X6_111 ⟨⟨Nat.le_of_ble_eq_true rfl, Nat.le_of_ble_eq_true rfl⟩, rfl, Nat.le_of_ble_eq_true rfl⟩ rfl rfl ?_
    obtain ⟨q0, q1⟩ := jinj2 h
    subst q0
    subst q1
    exact j_iret hC dX6_opens_59
  · have h := jit_t c3 h
    refine j_iconst (v := -1) (pc' := 9) hC dX6_opens_8 rfl rfl ?_
    obtain ⟨q0, q1⟩ := jinj2 h
    subst q0
    subst q1
    exact j_iret hC dX6_opens_9
theorem lp_X6_late_L16_b {Γ : jG} (hC : jOK Γ cX6_late 4 RX6 (some .int) { frames := 1, cells := 0, slots := 0, locals := 22 }) {Q : State → Prop} (rec : Int32 → Int32 → Int32 → jM → Option (Int32 × Int32 × Int32)) (ih : ∀ (x1 : Int32) (x2 : Int32) (x3 : Int32) (M : jM) (e1 : Int32) (e2 : Int32) (e3 : Int32), rec x1 x2 x3 M = some (e1, e2, e3) → jJ Γ GM RM 71 [(0, .ref (jad Γ 0)), (1, .int e1), (2, .int e2), (3, .int e3)] [] M Q → jJ Γ GM RM 16 [(0, .ref (jad Γ 0)), (1, .int x1), (2, .int x2), (3, .int x3)] [] M Q) (x1 : Int32) (x2 : Int32) (x3 : Int32) (M : jM) (e1 : Int32) (e2 : Int32) (e3 : Int32) (h : f_X6_late_L16_b rec x1 x2 x3 M = some (e1, e2, e3)) (hK : jJ Γ GM RM 71 [(0, .ref (jad Γ 0)), (1, .int e1), (2, .int e2), (3, .int e3)] [] M Q) : jJ Γ GM RM 16 [(0, .ref (jad Γ 0)), (1, .int x1), (2, .int x2), (3, .int x3)] [] M Q := by
  unfold f_X6_late_L16_b at h
  refine j_iload_n 3 (pc' := 17) hC dX6_late_16 rfl rfl ?_
  refine j_aload_n 0 (pc' := 18) hC dX6_late_17 rfl rfl ?_
  refine j_geti' (pc' := 21) hC dX6_late_18 rfl fi_X6_159 gm0 ?_
  refine j_icmp_ge (tgt := 71) (pc' := 24) hC dX6_late_21 (by decide) rfl (fun c1 => ?_) (fun c1 => ?_)
  · have h := jit_t c1 h
    obtain ⟨q0, q1, q2⟩ := jinj3 h
    subst q0
    subst q1
    subst q2
    refine j_sub [0, 1, 2, 3] rfl ?_
    exact hK
  · have h := jit_f c1 h
    refine j_aload_n 0 (pc' := 25) hC dX6_late_24 rfl rfl ?_
    refine j_iload_n 3 (pc' := 26) hC dX6_late_25 rfl rfl ?_
    obtain ⟨r2, hc3, h⟩ := jb1_s h
    refine j_callVi [.int x3] (pc' := 29) hC dX6_late_26 rfl (t_X6_comes _ _ hc3) gm0 vcl6 cv_X6_180 ⟨⟨Nat.le_of_ble_eq_true rfl, Nat.le_of_ble_eq_true rfl⟩, rfl, Nat.le_of_ble_eq_true rfl⟩ rfl rfl ?_
    refine j_iload_n 1 (pc' := 30) hC dX6_late_29 rfl rfl ?_
    obtain ⟨v7, hm9, h⟩ := jb1_s h
    have K8 : jJ Γ GM RM 42 [(0, .ref (jad Γ 0)), (1, .int x1), (2, .int x2), (3, .int x3)] [.int v7] M Q := by
      refine j_istore_n (pc' := 43) hC dX6_late_42 rfl rfl (by decide) rfl ?_
      refine j_iload_n 2 (pc' := 44) hC dX6_late_43 rfl rfl ?_
      refine j_aload_n 1 (pc' := 45) hC dX6_late_44 rfl rfl ?_
      refine j_iload_n 3 (pc' := 46) hC dX6_late_45 rfl rfl ?_
      obtain ⟨r13, hc14, h⟩ := jb1_s h
      refine j_callVi [.int x3] (pc' := 49) hC dX6_late_46 rfl (t_X6_comes _ _ hc14) gm0 vcl6 cv_X6_180 ⟨⟨Nat.le_of_ble_eq_true rfl, Nat.le_of_ble_eq_true rfl⟩, rfl, Nat.le_of_ble_eq_true rfl⟩ rfl rfl ?_
      refine j_aload_n 1 (pc' := 50) hC dX6_late_49 rfl rfl ?_
      refine j_getr' (o2 := 12) (pc' := 53) hC dX6_late_50 rfl fi_X6_43 gm0 rfl ?_
      refine j_iconst (v := 0) (pc' := 54) hC dX6_late_53 rfl rfl ?_
      refine j_iald (pc' := 55) hC dX6_late_54 rfl gm12 (by decide) ?_
      obtain ⟨v16, hm18, h⟩ := jlet_s h
      have K17 : jJ Γ GM RM 63 [(0, .ref (jad Γ 0)), (1, .int v7), (2, .int x2), (3, .int x3)] [.int v16, .int x2] M Q := by
        refine j_iadd (pc' := 64) hC dX6_late_63 rfl ?_
        obtain ⟨v20, ev20, h⟩ := jlet_s h
        refine j_istore_n (pc' := 65) hC dX6_late_64 rfl ev20 (by decide) rfl ?_
        obtain ⟨v21, ev21, h⟩ := jlet_s h
        refine j_iinc' 3 (c := 1) (pc' := 68) hC dX6_late_65 rfl rfl rfl ev21 (by decide) rfl ?_
        refine j_goto (tgt := 16) (pc' := 0) hC dX6_late_68 (by decide) ?_
        refine j_sub [2, 3, 1, 0] rfl ?_
        exact ih _ _ _ _ _ _ _ h hK
      refine j_icmp_le (tgt := 62) (pc' := 58) hC dX6_late_55 (by decide) rfl (fun c19 => ?_) (fun c19 => ?_)
      · have hm18 := jit_t c19 hm18
        refine j_iconst (v := 0) (pc' := 63) hC dX6_late_62 rfl rfl ?_
        subst hm18
        exact j_sub [1, 0, 2, 3] rfl K17
      · have hm18 := jit_f c19 hm18
        refine j_iconst (v := 1) (pc' := 59) hC dX6_late_58 rfl rfl ?_
        refine j_goto (tgt := 63) (pc' := 0) hC dX6_late_59 (by decide) ?_
        subst hm18
        exact j_sub [1, 0, 2, 3] rfl K17
    refine j_icmp_le (tgt := 41) (pc' := 33) hC dX6_late_30 (by decide) rfl (fun c10 => ?_) (fun c10 => ?_)
    · have hm9 := jit_t c10 hm9
      refine j_iload_n 1 (pc' := 42) hC dX6_late_41 rfl rfl ?_
      have q8 := jinj1 hm9
      subst q8
      exact j_sub [0, 1, 2, 3] rfl K8
    · have hm9 := jit_f c10 hm9
      refine j_aload_n 0 (pc' := 34) hC dX6_late_33 rfl rfl ?_
      refine j_iload_n 3 (pc' := 35) hC dX6_late_34 rfl rfl ?_
      obtain ⟨r11, hc12, hm9⟩ := jb1_s hm9
      refine j_callVi [.int x3] (pc' := 38) hC dX6_late_35 rfl (t_X6_comes _ _ hc12) gm0 vcl6 cv_X6_180 ⟨⟨Nat.le_of_ble_eq_true rfl, Nat.le_of_ble_eq_true rfl⟩, rfl, Nat.le_of_ble_eq_true rfl⟩ rfl rfl ?_
      refine j_goto (tgt := 42) (pc' := 0) hC dX6_late_38 (by decide) ?_
      have q8 := jinj1 hm9
      subst q8
      exact j_sub [0, 1, 2, 3] rfl K8
theorem lp_X6_late_L16 {Γ : jG} (hC : jOK Γ cX6_late 4 RX6 (some .int) { frames := 1, cells := 0, slots := 0, locals := 22 }) {Q : State → Prop} : ∀ (n : Nat) (x1 : Int32) (x2 : Int32) (x3 : Int32) (M : jM) (e1 : Int32) (e2 : Int32) (e3 : Int32), f_X6_late_L16 n x1 x2 x3 M = some (e1, e2, e3) → jJ Γ GM RM 71 [(0, .ref (jad Γ 0)), (1, .int e1), (2, .int e2), (3, .int e3)] [] M Q → jJ Γ GM RM 16 [(0, .ref (jad Γ 0)), (1, .int x1), (2, .int x2), (3, .int x3)] [] M Q := by
  intro n
  induction n with
  | zero =>
    intro x1 x2 x3 M e1 e2 e3 h hK
    exact jno h
  | succ n ih =>
    intro x1 x2 x3 M e1 e2 e3 h hK
    exact lp_X6_late_L16_b hC (f_X6_late_L16 n) ih x1 x2 x3 M e1 e2 e3 h hK
theorem t_X6_late (l : Launch) (E : jE) {M : jM} {r : Int32} {M' : jM} (h : f_X6_late M = some (r, M')) : jCi l yX6_late cX6_late 4 (some .int) 1 22 E RM GM (fun a _ => [.ref (a 0)]) M r M' := by
  refine jCi_of (own := RX6) (by decide) rfl (fun _ _ => Nat.le_of_ble_eq_true rfl) ?_
  intro Γ hC
  show jJ Γ GM RM 0 [(0, .ref (jad Γ 0))] [] M (jQi Γ RM GM r M')
  unfold f_X6_late at h
  refine j_aload_n 0 (pc' := 1) hC dX6_late_0 rfl rfl ?_
  refine j_geti' (pc' := 4) hC dX6_late_1 rfl fi_X6_156 gm0 ?_
  refine j_if_ne (tgt := 10) (pc' := 7) hC dX6_late_4 (by decide) rfl (fun c1 => ?_) (fun c1 => ?_)
  · have h := jit_f c1 h
    refine j_iconst (v := 0) (pc' := 11) hC dX6_late_10 rfl rfl ?_
    refine j_istore_n (pc' := 12) hC dX6_late_11 rfl rfl (by decide) rfl ?_
    refine j_iconst (v := 0) (pc' := 13) hC dX6_late_12 rfl rfl ?_
    refine j_istore_n (pc' := 14) hC dX6_late_13 rfl rfl (by decide) rfl ?_
    refine j_iconst (v := 0) (pc' := 15) hC dX6_late_14 rfl rfl ?_
    refine j_istore_n (pc' := 16) hC dX6_late_15 rfl rfl (by decide) rfl ?_
    refine j_sub [3, 2, 1, 0] rfl ?_
    obtain ⟨v2, v3, v4, hm5, h⟩ := jb3_s h
    refine lp_X6_late_L16 hC  jfu (0 : Int32) (0 : Int32) (0 : Int32) M v2 v3 v4 hm5 ?_
    refine j_aload_n 0 (pc' := 72) hC dX6_late_71 rfl rfl ?_
    refine j_iload_n 1 (pc' := 73) hC dX6_late_72 rfl rfl ?_
    refine j_iload_n 2 (pc' := 74) hC dX6_late_73 rfl rfl ?_
    obtain ⟨r6, M7, hc8, h⟩ := jb2_s h
    refine j_callVi [.int v2, .int v3] (pc' := 77) hC dX6_late_74 rfl (t_X6_answer _ _ hc8) gm0 vcl6 cv_X6_111 ⟨⟨Nat.le_of_ble_eq_true rfl, Nat.le_of_ble_eq_true rfl⟩, rfl, Nat.le_of_ble_eq_true rfl⟩ rfl rfl ?_
    obtain ⟨q0, q1⟩ := jinj2 h
    subst q0
    subst q1
    exact j_iret hC dX6_late_77
  · have h := jit_t c1 h
    refine j_bipush (v := -4) (pc' := 9) hC dX6_late_7 rfl rfl ?_
    obtain ⟨q0, q1⟩ := jinj2 h
    subst q0
    subst q1
    exact j_iret hC dX6_late_9
theorem t_X6_lacksRow (l : Launch) (E : jE) {a1 : Int32} {M : jM} {r : Int32} {M' : jM} (h : f_X6_lacksRow a1 M = some (r, M')) : jCi l yX6_lacksRow cX6_lacksRow 2 (some .int) 1 21 E RM GM (fun a _ => [.ref (a 0), .int a1]) M r M' := by
  refine jCi_of (own := RX6) (by decide) rfl (fun _ _ => Nat.le_of_ble_eq_true rfl) ?_
  intro Γ hC
  show jJ Γ GM RM 0 [(0, .ref (jad Γ 0)), (1, .int a1)] [] M (jQi Γ RM GM r M')
  unfold f_X6_lacksRow at h
  refine j_aload_n 0 (pc' := 1) hC dX6_lacksRow_0 rfl rfl ?_
  refine j_geti' (pc' := 4) hC dX6_lacksRow_1 rfl fi_X6_156 gm0 ?_
  refine j_if_ne (tgt := 10) (pc' := 7) hC dX6_lacksRow_4 (by decide) rfl (fun c1 => ?_) (fun c1 => ?_)
  · have h := jit_f c1 h
    refine j_aload_n 0 (pc' := 11) hC dX6_lacksRow_10 rfl rfl ?_
    refine j_getr' (o2 := 1) (pc' := 14) hC dX6_lacksRow_11 rfl fi_X6_7 gm0 rfl ?_
    refine j_iload_n 1 (pc' := 15) hC dX6_lacksRow_14 rfl rfl ?_
    obtain ⟨g2, h⟩ := jg_s h
    refine j_iald (pc' := 16) hC dX6_lacksRow_15 rfl gm1 g2 ?_
    refine j_if_ge (tgt := 27) (pc' := 19) hC dX6_lacksRow_16 (by decide) rfl (fun c3 => ?_) (fun c3 => ?_)
    · have h := jit_t c3 h
      refine j_iconst (v := 0) (pc' := 28) hC dX6_lacksRow_27 rfl rfl ?_
      obtain ⟨q0, q1⟩ := jinj2 h
      subst q0
      subst q1
      exact j_iret hC dX6_lacksRow_28
    · have h := jit_f c3 h
      refine j_aload_n 0 (pc' := 20) hC dX6_lacksRow_19 rfl rfl ?_
      refine j_iconst (v := 1) (pc' := 21) hC dX6_lacksRow_20 rfl rfl ?_
      obtain ⟨r4, M5, hc6, h⟩ := jb2_s h
      refine j_callVi [.int (1 : Int32)] (pc' := 24) hC dX6_lacksRow_21 rfl (t_X6_find _ _ hc6) gm0 vcl6 cv_X6_103 ⟨⟨Nat.le_of_ble_eq_true rfl, Nat.le_of_ble_eq_true rfl⟩, rfl, Nat.le_of_ble_eq_true rfl⟩ rfl rfl ?_
      refine j_goto (tgt := 28) (pc' := 0) hC dX6_lacksRow_24 (by decide) ?_
      obtain ⟨q0, q1⟩ := jinj2 h
      subst q0
      subst q1
      exact j_iret hC dX6_lacksRow_28
  · have h := jit_t c1 h
    refine j_bipush (v := -4) (pc' := 9) hC dX6_lacksRow_7 rfl rfl ?_
    obtain ⟨q0, q1⟩ := jinj2 h
    subst q0
    subst q1
    exact j_iret hC dX6_lacksRow_9
theorem lp_X6_run_L62_b {Γ : jG} (hC : jOK Γ cX6_run 11 RX6 (some .int) { frames := 4, cells := 0, slots := 0, locals := 92 }) {Q : State → Prop} (x2 : Int32) (rec : Int32 → Int32 → Int32 → jM → Option ((Int32 × jM) ⊕ (Int32 × jM))) (ih : ∀ (x1 : Int32) (x3 : Int32) (x4 : Int32) (M : jM) (res : (Int32 × jM) ⊕ (Int32 × jM)), rec x1 x3 x4 M = some res → (∀ (r : Int32) (M' : jM), res = .inl (r, M') → Q = jQi Γ RM GM r M') → (∀ (e4 : Int32) (Me : jM), res = .inr (e4, Me) → jJ Γ GM RM 135 [(0, .ref (jad Γ 0)), (1, .int x1), (2, .int x2), (3, .int x3), (4, .int e4)] [] Me Q) → jJ Γ GM RM 62 [(0, .ref (jad Γ 0)), (1, .int x1), (2, .int x2), (3, .int x3), (4, .int x4)] [] M Q) (x1 : Int32) (x3 : Int32) (x4 : Int32) (M : jM) (res : (Int32 × jM) ⊕ (Int32 × jM)) (h : f_X6_run_L62_b rec x1 x3 x4 M = some res) (hQ : ∀ (r : Int32) (M' : jM), res = .inl (r, M') → Q = jQi Γ RM GM r M') (hK : ∀ (e4 : Int32) (Me : jM), res = .inr (e4, Me) → jJ Γ GM RM 135 [(0, .ref (jad Γ 0)), (1, .int x1), (2, .int x2), (3, .int x3), (4, .int e4)] [] Me Q) : jJ Γ GM RM 62 [(0, .ref (jad Γ 0)), (1, .int x1), (2, .int x2), (3, .int x3), (4, .int x4)] [] M Q := by
  unfold f_X6_run_L62_b at h
  refine j_iload 4 (pc' := 64) hC dX6_run_62 rfl rfl ?_
  refine j_iload_n 3 (pc' := 65) hC dX6_run_64 rfl rfl ?_
  refine j_icmp_ge (tgt := 135) (pc' := 68) hC dX6_run_65 (by decide) rfl (fun c1 => ?_) (fun c1 => ?_)
  · have h := jit_t c1 h
    have q8 := jinj1 h
    subst q8
    refine j_sub [0, 1, 2, 3, 4] rfl ?_
    exact hK _ _ rfl
  · have h := jit_f c1 h
    refine j_aload_n 0 (pc' := 69) hC dX6_run_68 rfl rfl ?_
    refine j_getr' (o2 := 2) (pc' := 72) hC dX6_run_69 rfl fi_X6_13 gm0 rfl ?_
    refine j_bipush (v := 40) (pc' := 74) hC dX6_run_72 rfl rfl ?_
    refine j_iload_n 1 (pc' := 75) hC dX6_run_74 rfl rfl ?_
    refine j_imul (pc' := 76) hC dX6_run_75 rfl ?_
    refine j_iconst (v := 2) (pc' := 77) hC dX6_run_76 rfl rfl ?_
    refine j_iload 4 (pc' := 79) hC dX6_run_77 rfl rfl ?_
    refine j_imul (pc' := 80) hC dX6_run_79 rfl ?_
    refine j_iadd (pc' := 81) hC dX6_run_80 rfl ?_
    refine j_iconst (v := 1) (pc' := 82) hC dX6_run_81 rfl rfl ?_
    refine j_iadd (pc' := 83) hC dX6_run_82 rfl ?_
    obtain ⟨g2, h⟩ := jg_s h
    refine j_iald (pc' := 84) hC dX6_run_83 rfl gm2 g2 ?_
    obtain ⟨v3, ev3, h⟩ := jlet_s h
    refine j_istore (pc' := 86) hC dX6_run_84 rfl ev3 (by decide) rfl ?_
    refine j_aload_n 1 (pc' := 87) hC dX6_run_86 rfl rfl ?_
    refine j_aload_n 1 (pc' := 88) hC dX6_run_87 rfl rfl ?_
    refine j_getr' (o2 := 2) (pc' := 91) hC dX6_run_88 rfl fi_X6_13 gm0 rfl ?_
    refine j_bipush (v := 40) (pc' := 93) hC dX6_run_91 rfl rfl ?_
    refine j_iload_n 2 (pc' := 94) hC dX6_run_93 rfl rfl ?_
    refine j_imul (pc' := 95) hC dX6_run_94 rfl ?_
    refine j_iconst (v := 2) (pc' := 96) hC dX6_run_95 rfl rfl ?_
    refine j_iload 5 (pc' := 98) hC dX6_run_96 rfl rfl ?_
    refine j_imul (pc' := 99) hC dX6_run_98 rfl ?_
    refine j_iadd (pc' := 100) hC dX6_run_99 rfl ?_
    obtain ⟨g4, h⟩ := jg_s h
    refine j_iald (pc' := 101) hC dX6_run_100 rfl gm2 g4 ?_
    obtain ⟨r5, hc6, h⟩ := jb1_s h
    refine j_callVi [.int (gi M 2 (((40 : Int32) * x1) + ((2 : Int32) * x4)).toNatClampNeg)] (pc' := 104) hC dX6_run_101 rfl (t_X6_isHour _ _ hc6) gm0 vcl6 cv_X6_189 ⟨⟨Nat.le_of_ble_eq_true rfl, Nat.le_of_ble_eq_true rfl⟩, rfl, Nat.le_of_ble_eq_true rfl⟩ rfl rfl ?_
    refine j_if_eq (tgt := 123) (pc' := 107) hC dX6_run_104 (by decide) rfl (fun c7 => ?_) (fun c7 => ?_)
    · have h := jit_t c7 h
      refine j_aload_n 1 (pc' := 124) hC dX6_run_123 rfl rfl ?_
      refine j_iconst (v := 3) (pc' := 125) hC dX6_run_124 rfl rfl ?_
      obtain ⟨r8, M9, hc10, h⟩ := jb2_s h
      refine j_callVi [.int (3 : Int32)] (pc' := 128) hC dX6_run_125 rfl (t_X6_find _ _ hc10) gm0 vcl6 cv_X6_103 ⟨⟨Nat.le_of_ble_eq_true rfl, Nat.le_of_ble_eq_true rfl⟩, rfl, Nat.le_of_ble_eq_true rfl⟩ rfl rfl ?_
      have q8 := jinj1 h
      subst q8
      rw [hQ _ _ rfl]
      exact j_iret hC dX6_run_128
    · have h := jit_f c7 h
      refine j_iload 0 (pc' := 109) hC dX6_run_107 rfl rfl ?_
      refine j_bipush (v := -9) (pc' := 111) hC dX6_run_109 rfl rfl ?_
      refine j_icmp_eq (tgt := 129) (pc' := 114) hC dX6_run_111 (by decide) rfl (fun c11 => ?_) (fun c11 => ?_)
      · have h := jit_t c11 h
        obtain ⟨v12, ev12, h⟩ := jlet_s h
        refine j_iinc' 5 (c := 1) (pc' := 132) hC dX6_run_129 rfl rfl rfl ev12 (by decide) rfl ?_
        refine j_goto (tgt := 62) (pc' := 0) hC dX6_run_132 (by decide) ?_
        refine j_sub [2, 3, 4, 5, 0] rfl ?_
        exact ih _ _ _ _ res h hQ hK
      · have h := jit_f c11 h
        refine j_aload_n 1 (pc' := 115) hC dX6_run_114 rfl rfl ?_
        refine j_iload 0 (pc' := 117) hC dX6_run_115 rfl rfl ?_
        obtain ⟨r13, hc14, h⟩ := jb1_s h
        refine j_callVi [.int v3] (pc' := 120) hC dX6_run_117 rfl (t_X6_isDeed _ _ hc14) gm0 vcl6 cv_X6_168 ⟨⟨Nat.le_of_ble_eq_true rfl, Nat.le_of_ble_eq_true rfl⟩, rfl, Nat.le_of_ble_eq_true rfl⟩ rfl rfl ?_
        refine j_if_ne (tgt := 129) (pc' := 123) hC dX6_run_120 (by decide) rfl (fun c15 => ?_) (fun c15 => ?_)
        · have h := jit_f c15 h
          obtain ⟨v16, ev16, h⟩ := jlet_s h
          refine j_iinc' 5 (c := 1) (pc' := 132) hC dX6_run_129 rfl rfl rfl ev16 (by decide) rfl ?_
          refine j_goto (tgt := 62) (pc' := 0) hC dX6_run_132 (by decide) ?_
          refine j_sub [2, 3, 4, 5, 0] rfl ?_
          exact ih _ _ _ _ res h hQ hK
        · have h := jit_t c15 h
          refine j_aload_n 1 (pc' := 124) hC dX6_run_123 rfl rfl ?_
          refine j_iconst (v := 3) (pc' := 125) hC dX6_run_124 rfl rfl ?_
          obtain ⟨r17, M18, hc19, h⟩ := jb2_s h
          refine j_callVi [.int (3 : Int32)] (pc' := 128) hC dX6_run_125 rfl (t_X6_find _ _ hc19) gm0 vcl6 cv_X6_103 ⟨⟨Nat.le_of_ble_eq_true rfl, Nat.le_of_ble_eq_true rfl⟩, rfl, Nat.le_of_ble_eq_true rfl⟩ rfl rfl ?_
          have q8 := jinj1 h
          subst q8
          rw [hQ _ _ rfl]
          exact j_iret hC dX6_run_128
theorem lp_X6_run_L62 {Γ : jG} (hC : jOK Γ cX6_run 11 RX6 (some .int) { frames := 4, cells := 0, slots := 0, locals := 92 }) {Q : State → Prop} (x2 : Int32) : ∀ (n : Nat) (x1 : Int32) (x3 : Int32) (x4 : Int32) (M : jM) (res : (Int32 × jM) ⊕ (Int32 × jM)), f_X6_run_L62 n x1 x3 x4 M = some res → (∀ (r : Int32) (M' : jM), res = .inl (r, M') → Q = jQi Γ RM GM r M') → (∀ (e4 : Int32) (Me : jM), res = .inr (e4, Me) → jJ Γ GM RM 135 [(0, .ref (jad Γ 0)), (1, .int x1), (2, .int x2), (3, .int x3), (4, .int e4)] [] Me Q) → jJ Γ GM RM 62 [(0, .ref (jad Γ 0)), (1, .int x1), (2, .int x2), (3, .int x3), (4, .int x4)] [] M Q := by
  intro n
  induction n with
  | zero =>
    intro x1 x3 x4 M res h hQ hK
    exact jno h
  | succ n ih =>
    intro x1 x3 x4 M res h hQ hK
    exact lp_X6_run_L62_b hC x2 (f_X6_run_L62 n) ih x1 x3 x4 M res h hQ hK
theorem lp_X6_run_L169_b {Γ : jG} (hC : jOK Γ cX6_run 11 RX6 (some .int) { frames := 4, cells := 0, slots := 0, locals := 92 }) {Q : State → Prop} (x2 : Int32) (rec : Int32 → Int32 → Int32 → Int32 → Int32 → Int32 → Int32 → jM → Option (Int32 × Int32 × Int32 × Int32 × Int32)) (ih : ∀ (x1 : Int32) (x3 : Int32) (x4 : Int32) (x5 : Int32) (x6 : Int32) (x7 : Int32) (x8 : Int32) (M : jM) (e4 : Int32) (e5 : Int32) (e6 : Int32) (e7 : Int32) (e8 : Int32), rec x1 x3 x4 x5 x6 x7 x8 M = some (e4, e5, e6, e7, e8) → jJ Γ GM RM 320 [(0, .ref (jad Γ 0)), (1, .int x1), (2, .int x2), (3, .int x3), (4, .int e4), (5, .int e5), (6, .int e6), (7, .int e7), (8, .int e8)] [] M Q → jJ Γ GM RM 169 [(0, .ref (jad Γ 0)), (1, .int x1), (2, .int x2), (3, .int x3), (4, .int x4), (5, .int x5), (6, .int x6), (7, .int x7), (8, .int x8)] [] M Q) (x1 : Int32) (x3 : Int32) (x4 : Int32) (x5 : Int32) (x6 : Int32) (x7 : Int32) (x8 : Int32) (M : jM) (e4 : Int32) (e5 : Int32) (e6 : Int32) (e7 : Int32) (e8 : Int32) (h : f_X6_run_L169_b rec x1 x3 x4 x5 x6 x7 x8 M = some (e4, e5, e6, e7, e8)) (hK : jJ Γ GM RM 320 [(0, .ref (jad Γ 0)), (1, .int x1), (2, .int x2), (3, .int x3), (4, .int e4), (5, .int e5), (6, .int e6), (7, .int e7), (8, .int e8)] [] M Q) : jJ Γ GM RM 169 [(0, .ref (jad Γ 0)), (1, .int x1), (2, .int x2), (3, .int x3), (4, .int x4), (5, .int x5), (6, .int x6), (7, .int x7), (8, .int x8)] [] M Q := by
  unfold f_X6_run_L169_b at h
  refine j_iload 7 (pc' := 171) hC dX6_run_169 rfl rfl ?_
  refine j_iload_n 3 (pc' := 172) hC dX6_run_171 rfl rfl ?_
  refine j_icmp_ge (tgt := 320) (pc' := 175) hC dX6_run_172 (by decide) rfl (fun c1 => ?_) (fun c1 => ?_)
  · have h := jit_t c1 h
    obtain ⟨q0, q1, q2, q3, q4⟩ := jinj5 h
    subst q0
    subst q1
    subst q2
    subst q3
    subst q4
    refine j_sub [0, 1, 2, 3, 4, 5, 6, 7, 8] rfl ?_
    exact hK
  · have h := jit_f c1 h
    refine j_iload 8 (pc' := 177) hC dX6_run_175 rfl rfl ?_
    refine j_if_eq (tgt := 320) (pc' := 180) hC dX6_run_177 (by decide) rfl (fun c2 => ?_) (fun c2 => ?_)
    · have h := jit_t c2 h
      obtain ⟨q0, q1, q2, q3, q4⟩ := jinj5 h
      subst q0
      subst q1
      subst q2
      subst q3
      subst q4
      refine j_sub [0, 1, 2, 3, 4, 5, 6, 7, 8] rfl ?_
      exact hK
    · have h := jit_f c2 h
      refine j_aload_n 0 (pc' := 181) hC dX6_run_180 rfl rfl ?_
      refine j_getr' (o2 := 2) (pc' := 184) hC dX6_run_181 rfl fi_X6_13 gm0 rfl ?_
      refine j_bipush (v := 40) (pc' := 186) hC dX6_run_184 rfl rfl ?_
      refine j_iload_n 1 (pc' := 187) hC dX6_run_186 rfl rfl ?_
      refine j_imul (pc' := 188) hC dX6_run_187 rfl ?_
      refine j_iconst (v := 2) (pc' := 189) hC dX6_run_188 rfl rfl ?_
      refine j_iload 7 (pc' := 191) hC dX6_run_189 rfl rfl ?_
      refine j_imul (pc' := 192) hC dX6_run_191 rfl ?_
      refine j_iadd (pc' := 193) hC dX6_run_192 rfl ?_
      obtain ⟨g3, h⟩ := jg_s h
      refine j_iald (pc' := 194) hC dX6_run_193 rfl gm2 g3 ?_
      obtain ⟨v4, ev4, h⟩ := jlet_s h
      refine j_istore (pc' := 196) hC dX6_run_194 rfl ev4 (by decide) rfl ?_
      refine j_aload_n 1 (pc' := 197) hC dX6_run_196 rfl rfl ?_
      refine j_getr' (o2 := 2) (pc' := 200) hC dX6_run_197 rfl fi_X6_13 gm0 rfl ?_
      refine j_bipush (v := 40) (pc' := 202) hC dX6_run_200 rfl rfl ?_
      refine j_iload_n 2 (pc' := 203) hC dX6_run_202 rfl rfl ?_
      refine j_imul (pc' := 204) hC dX6_run_203 rfl ?_
      refine j_iconst (v := 2) (pc' := 205) hC dX6_run_204 rfl rfl ?_
      refine j_iload 8 (pc' := 207) hC dX6_run_205 rfl rfl ?_
      refine j_imul (pc' := 208) hC dX6_run_207 rfl ?_
      refine j_iadd (pc' := 209) hC dX6_run_208 rfl ?_
      refine j_iconst (v := 1) (pc' := 210) hC dX6_run_209 rfl rfl ?_
      refine j_iadd (pc' := 211) hC dX6_run_210 rfl ?_
      obtain ⟨g5, h⟩ := jg_s h
      refine j_iald (pc' := 212) hC dX6_run_211 rfl gm2 g5 ?_
      obtain ⟨v6, ev6, h⟩ := jlet_s h
      refine j_istore (pc' := 214) hC dX6_run_212 rfl ev6 (by decide) rfl ?_
      refine j_iload 6 (pc' := 216) hC dX6_run_214 rfl rfl ?_
      refine j_iload 1 (pc' := 218) hC dX6_run_216 rfl rfl ?_
      obtain ⟨r7, hc8, h⟩ := jb1_s h
      refine j_callSi [.int x4, .int v4] (pc' := 221) hC dX6_run_218 rfl (t_X6_has _ _ hc8) cs_X6_136 ⟨⟨Nat.le_of_ble_eq_true rfl, Nat.le_of_ble_eq_true rfl⟩, rfl, Nat.le_of_ble_eq_true rfl⟩ rfl rfl ?_
      obtain ⟨v14, hm16, h⟩ := jb1_s h
      have K15 : jJ Γ GM RM 249 [(0, .ref (jad Γ 0)), (1, .int x1), (2, .int x2), (3, .int x3), (4, .int x4), (5, .int x5), (6, .int x6), (7, .int x7), (8, .int x8), (9, .int v4), (10, .int v6)] [.int v14] M Q := by
        refine j_istore (pc' := 251) hC dX6_run_249 rfl rfl (by decide) rfl ?_
        refine j_iload 0 (pc' := 253) hC dX6_run_251 rfl rfl ?_
        obtain ⟨v44, v45, v46, v47, hm49, h⟩ := jb4_s h
        have K48 : jJ Γ GM RM 317 [(0, .ref (jad Γ 0)), (1, .int x1), (2, .int x2), (3, .int x3), (4, .int v44), (5, .int v45), (6, .int v46), (7, .int v47), (8, .int v14), (9, .int v4), (10, .int v6)] [] M Q := by
          refine j_goto (tgt := 169) (pc' := 0) hC dX6_run_317 (by decide) ?_
          refine j_sub [0, 1, 2, 3, 4, 5, 6, 7, 8] rfl ?_
          exact ih _ _ _ _ _ _ _ _ _ _ _ _ _ h hK
        refine j_if_eq (tgt := 317) (pc' := 256) hC dX6_run_253 (by decide) rfl (fun c50 => ?_) (fun c50 => ?_)
        · have hm49 := jit_t c50 hm49
          obtain ⟨q0, q1, q2, q3⟩ := jinj4 hm49
          subst q0
          subst q1
          subst q2
          subst q3
          exact j_sub [1, 2, 3, 4, 5, 6, 7, 8, 0, 9, 10] rfl K48
        · have hm49 := jit_f c50 hm49
          refine j_iload 5 (pc' := 258) hC dX6_run_256 rfl rfl ?_
          refine j_iconst (v := 1) (pc' := 259) hC dX6_run_258 rfl rfl ?_
          refine j_iload 9 (pc' := 261) hC dX6_run_259 rfl rfl ?_
          refine j_ishl (pc' := 262) hC dX6_run_261 rfl ?_
          refine j_iconst (v := -1) (pc' := 263) hC dX6_run_262 rfl rfl ?_
          refine j_ixor (pc' := 264) hC dX6_run_263 rfl ?_
          refine j_iand (pc' := 265) hC dX6_run_264 rfl ?_
          obtain ⟨v51, ev51, hm49⟩ := jlet_s hm49
          refine j_istore (pc' := 267) hC dX6_run_265 rfl ev51 (by decide) rfl ?_
          refine j_iload 6 (pc' := 269) hC dX6_run_267 rfl rfl ?_
          refine j_iload 10 (pc' := 271) hC dX6_run_269 rfl rfl ?_
          obtain ⟨v53, hm55, hm49⟩ := jlet_s hm49
          have K54 : jJ Γ GM RM 282 [(0, .ref (jad Γ 0)), (1, .int x1), (2, .int x2), (3, .int x3), (4, .int v51), (5, .int x5), (6, .int x6), (7, .int x7), (8, .int v14), (9, .int v4), (10, .int v6)] [.int v53, .int x5] M Q := by
            refine j_ior (pc' := 283) hC dX6_run_282 rfl ?_
            obtain ⟨v57, ev57, hm49⟩ := jlet_s hm49
            refine j_istore (pc' := 285) hC dX6_run_283 rfl ev57 (by decide) rfl ?_
            refine j_iload 10 (pc' := 287) hC dX6_run_285 rfl rfl ?_
            obtain ⟨v63, hm65, hm49⟩ := jb1_s hm49
            have K64 : jJ Γ GM RM 312 [(0, .ref (jad Γ 0)), (1, .int x1), (2, .int x2), (3, .int x3), (4, .int v51), (5, .int v57), (6, .int x6), (7, .int x7), (8, .int v14), (9, .int v4), (10, .int v6)] [.int v63] M Q := by
              refine j_istore (pc' := 314) hC dX6_run_312 rfl rfl (by decide) rfl ?_
              obtain ⟨v71, ev71, hm49⟩ := jlet_s hm49
              refine j_iinc' 7 (c := 1) (pc' := 317) hC dX6_run_314 rfl rfl rfl ev71 (by decide) rfl ?_
              obtain ⟨q0, q1, q2, q3⟩ := jinj4 hm49
              subst q0
              subst q1
              subst q2
              subst q3
              exact j_sub [2, 3, 4, 5, 6, 7, 1, 0, 8, 9, 10] rfl K48
            refine j_if_lt (tgt := 308) (pc' := 290) hC dX6_run_287 (by decide) rfl (fun c66 => ?_) (fun c66 => ?_)
            · have hm65 := jit_t c66 hm65
              refine j_iload 6 (pc' := 310) hC dX6_run_308 rfl rfl ?_
              refine j_iconst (v := 1) (pc' := 311) hC dX6_run_310 rfl rfl ?_
              refine j_iadd (pc' := 312) hC dX6_run_311 rfl ?_
              have q8 := jinj1 hm65
              subst q8
              exact j_sub [1, 2, 3, 4, 5, 0, 6, 7, 8, 9, 10] rfl K64
            · have hm65 := jit_f c66 hm65
              refine j_aload_n 1 (pc' := 291) hC dX6_run_290 rfl rfl ?_
              refine j_getr' (o2 := 5) (pc' := 294) hC dX6_run_291 rfl fi_X6_22 gm0 rfl ?_
              refine j_iload 10 (pc' := 296) hC dX6_run_294 rfl rfl ?_
              obtain ⟨g67, hm65⟩ := jg_s hm65
              refine j_iald (pc' := 297) hC dX6_run_296 rfl gm5 g67 ?_
              refine j_iconst (v := 1) (pc' := 298) hC dX6_run_297 rfl rfl ?_
              obtain ⟨r68, hc69, hm65⟩ := jb1_s hm65
              refine j_callSi [.int (gi M 5 v6.toNatClampNeg), .int (1 : Int32)] (pc' := 301) hC dX6_run_298 rfl (t_X6_isKind _ _ hc69) cs_X6_195 ⟨⟨Nat.le_of_ble_eq_true rfl, Nat.le_of_ble_eq_true rfl⟩, rfl, Nat.le_of_ble_eq_true rfl⟩ rfl rfl ?_
              refine j_if_eq (tgt := 308) (pc' := 304) hC dX6_run_301 (by decide) rfl (fun c70 => ?_) (fun c70 => ?_)
              · have hm65 := jit_t c70 hm65
                refine j_iload 6 (pc' := 310) hC dX6_run_308 rfl rfl ?_
                refine j_iconst (v := 1) (pc' := 311) hC dX6_run_310 rfl rfl ?_
                refine j_iadd (pc' := 312) hC dX6_run_311 rfl ?_
                have q8 := jinj1 hm65
                subst q8
                exact j_sub [1, 2, 3, 4, 5, 0, 6, 7, 8, 9, 10] rfl K64
              · have hm65 := jit_f c70 hm65
                refine j_iconst (v := 0) (pc' := 305) hC dX6_run_304 rfl rfl ?_
                refine j_goto (tgt := 312) (pc' := 0) hC dX6_run_305 (by decide) ?_
                have q8 := jinj1 hm65
                subst q8
                exact j_sub [1, 2, 3, 4, 5, 0, 6, 7, 8, 9, 10] rfl K64
          refine j_if_ge (tgt := 278) (pc' := 274) hC dX6_run_271 (by decide) rfl (fun c56 => ?_) (fun c56 => ?_)
          · have hm55 := jit_t c56 hm55
            refine j_iconst (v := 1) (pc' := 279) hC dX6_run_278 rfl rfl ?_
            refine j_iload 10 (pc' := 281) hC dX6_run_279 rfl rfl ?_
            refine j_ishl (pc' := 282) hC dX6_run_281 rfl ?_
            subst hm55
            exact j_sub [2, 3, 4, 5, 0, 6, 7, 8, 1, 9, 10] rfl K54
          · have hm55 := jit_f c56 hm55
            refine j_iconst (v := 0) (pc' := 275) hC dX6_run_274 rfl rfl ?_
            refine j_goto (tgt := 282) (pc' := 0) hC dX6_run_275 (by decide) ?_
            subst hm55
            exact j_sub [2, 3, 4, 5, 0, 6, 7, 8, 1, 9, 10] rfl K54
      refine j_if_eq (tgt := 248) (pc' := 224) hC dX6_run_221 (by decide) rfl (fun c17 => ?_) (fun c17 => ?_)
      · have hm16 := jit_t c17 hm16
        refine j_iconst (v := 0) (pc' := 249) hC dX6_run_248 rfl rfl ?_
        have q8 := jinj1 hm16
        subst q8
        exact j_sub [2, 3, 4, 5, 6, 7, 8, 9, 10, 1, 0] rfl K15
      · have hm16 := jit_f c17 hm16
        refine j_iload 0 (pc' := 226) hC dX6_run_224 rfl rfl ?_
        refine j_if_lt (tgt := 244) (pc' := 229) hC dX6_run_226 (by decide) rfl (fun c18 => ?_) (fun c18 => ?_)
        · have hm16 := jit_t c18 hm16
          refine j_iconst (v := 1) (pc' := 245) hC dX6_run_244 rfl rfl ?_
          refine j_goto (tgt := 249) (pc' := 0) hC dX6_run_245 (by decide) ?_
          have q8 := jinj1 hm16
          subst q8
          exact j_sub [2, 3, 4, 5, 6, 7, 8, 9, 10, 1, 0] rfl K15
        · have hm16 := jit_f c18 hm16
          refine j_aload_n 2 (pc' := 230) hC dX6_run_229 rfl rfl ?_
          refine j_iload 0 (pc' := 232) hC dX6_run_230 rfl rfl ?_
          refine j_iload 1 (pc' := 234) hC dX6_run_232 rfl rfl ?_
          refine j_iload 7 (pc' := 236) hC dX6_run_234 rfl rfl ?_
          refine j_iload 8 (pc' := 238) hC dX6_run_236 rfl rfl ?_
          obtain ⟨r19, hc20, hm16⟩ := jb1_s hm16
          refine j_callVi [.int v6, .int v4, .int x5, .int x6] (pc' := 241) hC dX6_run_238 rfl (t_X6_canBe _ _ hc20) gm0 vcl6 cv_X6_210 ⟨⟨Nat.le_of_ble_eq_true rfl, Nat.le_of_ble_eq_true rfl⟩, rfl, Nat.le_of_ble_eq_true rfl⟩ rfl rfl ?_
          refine j_if_eq (tgt := 248) (pc' := 244) hC dX6_run_241 (by decide) rfl (fun c21 => ?_) (fun c21 => ?_)
          · have hm16 := jit_t c21 hm16
            refine j_iconst (v := 0) (pc' := 249) hC dX6_run_248 rfl rfl ?_
            have q8 := jinj1 hm16
            subst q8
            exact j_sub [2, 3, 4, 5, 6, 7, 8, 9, 10, 1, 0] rfl K15
          · have hm16 := jit_f c21 hm16
            refine j_iconst (v := 1) (pc' := 245) hC dX6_run_244 rfl rfl ?_
            refine j_goto (tgt := 249) (pc' := 0) hC dX6_run_245 (by decide) ?_
            have q8 := jinj1 hm16
            subst q8
            exact j_sub [2, 3, 4, 5, 6, 7, 8, 9, 10, 1, 0] rfl K15
theorem lp_X6_run_L169 {Γ : jG} (hC : jOK Γ cX6_run 11 RX6 (some .int) { frames := 4, cells := 0, slots := 0, locals := 92 }) {Q : State → Prop} (x2 : Int32) : ∀ (n : Nat) (x1 : Int32) (x3 : Int32) (x4 : Int32) (x5 : Int32) (x6 : Int32) (x7 : Int32) (x8 : Int32) (M : jM) (e4 : Int32) (e5 : Int32) (e6 : Int32) (e7 : Int32) (e8 : Int32), f_X6_run_L169 n x1 x3 x4 x5 x6 x7 x8 M = some (e4, e5, e6, e7, e8) → jJ Γ GM RM 320 [(0, .ref (jad Γ 0)), (1, .int x1), (2, .int x2), (3, .int x3), (4, .int e4), (5, .int e5), (6, .int e6), (7, .int e7), (8, .int e8)] [] M Q → jJ Γ GM RM 169 [(0, .ref (jad Γ 0)), (1, .int x1), (2, .int x2), (3, .int x3), (4, .int x4), (5, .int x5), (6, .int x6), (7, .int x7), (8, .int x8)] [] M Q := by
  intro n
  induction n with
  | zero =>
    intro x1 x3 x4 x5 x6 x7 x8 M e4 e5 e6 e7 e8 h hK
    exact jno h
  | succ n ih =>
    intro x1 x3 x4 x5 x6 x7 x8 M e4 e5 e6 e7 e8 h hK
    exact lp_X6_run_L169_b hC x2 (f_X6_run_L169 n) ih x1 x3 x4 x5 x6 x7 x8 M e4 e5 e6 e7 e8 h hK
theorem t_X6_run (l : Launch) (E : jE) {a1 : Int32} {M : jM} {r : Int32} {M' : jM} (h : f_X6_run a1 M = some (r, M')) : jCi l yX6_run cX6_run 11 (some .int) 4 92 E RM GM (fun a _ => [.ref (a 0), .int a1]) M r M' := by
  refine jCi_of (own := RX6) (by decide) rfl (fun _ _ => Nat.le_of_ble_eq_true rfl) ?_
  intro Γ hC
  show jJ Γ GM RM 0 [(0, .ref (jad Γ 0)), (1, .int a1)] [] M (jQi Γ RM GM r M')
  unfold f_X6_run at h
  refine j_iload_n 1 (pc' := 1) hC dX6_run_0 rfl rfl ?_
  obtain ⟨r1, hc2, h⟩ := jb1_s h
  refine j_callSi [.int a1] (pc' := 4) hC dX6_run_1 rfl (t_X6_isRow _ _ hc2) cs_X6_99 ⟨⟨Nat.le_of_ble_eq_true rfl, Nat.le_of_ble_eq_true rfl⟩, rfl, Nat.le_of_ble_eq_true rfl⟩ rfl rfl ?_
  refine j_if_ne (tgt := 9) (pc' := 7) hC dX6_run_4 (by decide) rfl (fun c3 => ?_) (fun c3 => ?_)
  · have h := jit_f c3 h
    refine j_aload_n 0 (pc' := 10) hC dX6_run_9 rfl rfl ?_
    refine j_iload_n 1 (pc' := 11) hC dX6_run_10 rfl rfl ?_
    obtain ⟨r4, M5, hc6, h⟩ := jb2_s h
    refine j_callVi [.int a1] (pc' := 14) hC dX6_run_11 rfl (t_X6_lacksRow _ _ hc6) gm0 vcl6 cv_X6_237 ⟨⟨Nat.le_of_ble_eq_true rfl, Nat.le_of_ble_eq_true rfl⟩, rfl, Nat.le_of_ble_eq_true rfl⟩ rfl rfl ?_
    refine j_istore_n (pc' := 15) hC dX6_run_14 rfl rfl (by decide) rfl ?_
    refine j_iload_n 0 (pc' := 16) hC dX6_run_15 rfl rfl ?_
    refine j_if_ge (tgt := 21) (pc' := 19) hC dX6_run_16 (by decide) rfl (fun c7 => ?_) (fun c7 => ?_)
    · have h := jit_t c7 h
      refine j_aload_n 1 (pc' := 22) hC dX6_run_21 rfl rfl ?_
      refine j_getr' (o2 := 1) (pc' := 25) hC dX6_run_22 rfl fi_X6_7 gm0 rfl ?_
      refine j_iload_n 2 (pc' := 26) hC dX6_run_25 rfl rfl ?_
      obtain ⟨g8, h⟩ := jg_s h
      refine j_iald (pc' := 27) hC dX6_run_26 rfl gm1 g8 ?_
      refine j_iconst (v := 2) (pc' := 28) hC dX6_run_27 rfl rfl ?_
      refine j_irem (pc' := 29) hC dX6_run_28 rfl (by decide) ?_
      refine j_iconst (v := 1) (pc' := 30) hC dX6_run_29 rfl rfl ?_
      refine j_icmp_eq (tgt := 44) (pc' := 33) hC dX6_run_30 (by decide) rfl (fun c9 => ?_) (fun c9 => ?_)
      · have h := jit_t c9 h
        refine j_aload_n 1 (pc' := 45) hC dX6_run_44 rfl rfl ?_
        refine j_iconst (v := 5) (pc' := 46) hC dX6_run_45 rfl rfl ?_
        obtain ⟨r10, M11, hc12, h⟩ := jb2_s h
        refine j_callVi [.int (5 : Int32)] (pc' := 49) hC dX6_run_46 rfl (t_X6_find _ _ hc12) gm0 vcl6 cv_X6_103 ⟨⟨Nat.le_of_ble_eq_true rfl, Nat.le_of_ble_eq_true rfl⟩, rfl, Nat.le_of_ble_eq_true rfl⟩ rfl rfl ?_
        obtain ⟨q0, q1⟩ := jinj2 h
        subst q0
        subst q1
        exact j_iret hC dX6_run_49
      · have h := jit_f c9 h
        refine j_aload_n 1 (pc' := 34) hC dX6_run_33 rfl rfl ?_
        refine j_getr' (o2 := 1) (pc' := 37) hC dX6_run_34 rfl fi_X6_7 gm0 rfl ?_
        refine j_iload_n 2 (pc' := 38) hC dX6_run_37 rfl rfl ?_
        obtain ⟨g13, h⟩ := jg_s h
        refine j_iald (pc' := 39) hC dX6_run_38 rfl gm1 g13 ?_
        refine j_bipush (v := 14) (pc' := 41) hC dX6_run_39 rfl rfl ?_
        refine j_icmp_le (tgt := 50) (pc' := 44) hC dX6_run_41 (by decide) rfl (fun c14 => ?_) (fun c14 => ?_)
        · have h := jit_t c14 h
          refine j_aload_n 1 (pc' := 51) hC dX6_run_50 rfl rfl ?_
          refine j_getr' (o2 := 1) (pc' := 54) hC dX6_run_51 rfl fi_X6_7 gm0 rfl ?_
          refine j_iload_n 2 (pc' := 55) hC dX6_run_54 rfl rfl ?_
          obtain ⟨g15, h⟩ := jg_s h
          refine j_iald (pc' := 56) hC dX6_run_55 rfl gm1 g15 ?_
          refine j_iconst (v := 2) (pc' := 57) hC dX6_run_56 rfl rfl ?_
          refine j_idiv (pc' := 58) hC dX6_run_57 rfl (by decide) ?_
          obtain ⟨v16, ev16, h⟩ := jlet_s h
          refine j_istore_n (pc' := 59) hC dX6_run_58 rfl ev16 (by decide) rfl ?_
          refine j_iconst (v := 0) (pc' := 60) hC dX6_run_59 rfl rfl ?_
          refine j_istore (pc' := 62) hC dX6_run_60 rfl rfl (by decide) rfl ?_
          refine j_sub [3, 4, 2, 1, 0] rfl ?_
          rcases jr2_s h with hm19 | ⟨v17, M18, hm19, h⟩
          · exact lp_X6_run_L62 hC r4 jfu a1 v16 (0 : Int32) M5 _ hm19 (fun _ _ e => by cases e; rfl) (fun _ _ e => by cases e)
          · refine lp_X6_run_L62 hC r4 jfu a1 v16 (0 : Int32) M5 _ hm19 (fun _ _ e => by cases e) (fun _ _ e => ?_)
            cases e
            refine j_aload_n 0 (pc' := 136) hC dX6_run_135 rfl rfl ?_
            refine j_aload_n 0 (pc' := 137) hC dX6_run_136 rfl rfl ?_
            refine j_getr' (o2 := 12) (pc' := 140) hC dX6_run_137 rfl fi_X6_43 gm0 rfl ?_
            refine j_iconst (v := 0) (pc' := 141) hC dX6_run_140 rfl rfl ?_
            refine j_iald (pc' := 142) hC dX6_run_141 rfl gm12 (by decide) ?_
            obtain ⟨r20, hc21, h⟩ := jb1_s h
            refine j_callVi [.int (gi M18 12 (0 : Int32).toNatClampNeg)] (pc' := 145) hC dX6_run_142 rfl (t_X6_shelfOn _ _ hc21) gm0 vcl6 cv_X6_213 ⟨⟨Nat.le_of_ble_eq_true rfl, Nat.le_of_ble_eq_true rfl⟩, rfl, Nat.le_of_ble_eq_true rfl⟩ rfl rfl ?_
            refine j_istore (pc' := 147) hC dX6_run_145 rfl rfl (by decide) rfl ?_
            refine j_aload_n 1 (pc' := 148) hC dX6_run_147 rfl rfl ?_
            refine j_getr' (o2 := 12) (pc' := 151) hC dX6_run_148 rfl fi_X6_43 gm0 rfl ?_
            refine j_iconst (v := 3) (pc' := 152) hC dX6_run_151 rfl rfl ?_
            refine j_iald (pc' := 153) hC dX6_run_152 rfl gm12 (by decide) ?_
            obtain ⟨v22, ev22, h⟩ := jlet_s h
            refine j_istore (pc' := 155) hC dX6_run_153 rfl ev22 (by decide) rfl ?_
            refine j_aload_n 2 (pc' := 156) hC dX6_run_155 rfl rfl ?_
            refine j_getr' (o2 := 12) (pc' := 159) hC dX6_run_156 rfl fi_X6_43 gm0 rfl ?_
            refine j_iconst (v := 4) (pc' := 160) hC dX6_run_159 rfl rfl ?_
            refine j_iald (pc' := 161) hC dX6_run_160 rfl gm12 (by decide) ?_
            obtain ⟨v23, ev23, h⟩ := jlet_s h
            refine j_istore (pc' := 163) hC dX6_run_161 rfl ev23 (by decide) rfl ?_
            refine j_iconst (v := 0) (pc' := 164) hC dX6_run_163 rfl rfl ?_
            refine j_istore (pc' := 166) hC dX6_run_164 rfl rfl (by decide) rfl ?_
            refine j_iconst (v := 1) (pc' := 167) hC dX6_run_166 rfl rfl ?_
            refine j_istore (pc' := 169) hC dX6_run_167 rfl rfl (by decide) rfl ?_
            refine j_sub [5, 6, 7, 8, 4, 3, 2, 1, 0] rfl ?_
            obtain ⟨v24, v25, v26, v27, v28, hm29, h⟩ := jb5_s h
            refine lp_X6_run_L169 hC r4 jfu a1 v16 r20 v22 v23 (0 : Int32) (1 : Int32) M18 v24 v25 v26 v27 v28 hm29 ?_
            refine j_aload_n 0 (pc' := 321) hC dX6_run_320 rfl rfl ?_
            refine j_iload 7 (pc' := 323) hC dX6_run_321 rfl rfl ?_
            refine j_iload 5 (pc' := 325) hC dX6_run_323 rfl rfl ?_
            obtain ⟨r30, M31, hc32, h⟩ := jb2_s h
            refine j_callVi [.int v27, .int v25] (pc' := 328) hC dX6_run_325 rfl (t_X6_answer _ _ hc32) gm0 vcl6 cv_X6_111 ⟨⟨Nat.le_of_ble_eq_true rfl, Nat.le_of_ble_eq_true rfl⟩, rfl, Nat.le_of_ble_eq_true rfl⟩ rfl rfl ?_
            obtain ⟨q0, q1⟩ := jinj2 h
            subst q0
            subst q1
            exact j_iret hC dX6_run_328
        · have h := jit_f c14 h
          refine j_aload_n 1 (pc' := 45) hC dX6_run_44 rfl rfl ?_
          refine j_iconst (v := 5) (pc' := 46) hC dX6_run_45 rfl rfl ?_
          obtain ⟨r33, M34, hc35, h⟩ := jb2_s h
          refine j_callVi [.int (5 : Int32)] (pc' := 49) hC dX6_run_46 rfl (t_X6_find _ _ hc35) gm0 vcl6 cv_X6_103 ⟨⟨Nat.le_of_ble_eq_true rfl, Nat.le_of_ble_eq_true rfl⟩, rfl, Nat.le_of_ble_eq_true rfl⟩ rfl rfl ?_
          obtain ⟨q0, q1⟩ := jinj2 h
          subst q0
          subst q1
          exact j_iret hC dX6_run_49
    · have h := jit_f c7 h
      refine j_iload_n 0 (pc' := 20) hC dX6_run_19 rfl rfl ?_
      obtain ⟨q0, q1⟩ := jinj2 h
      subst q0
      subst q1
      exact j_iret hC dX6_run_20
  · have h := jit_t c3 h
    refine j_iconst (v := -1) (pc' := 8) hC dX6_run_7 rfl rfl ?_
    obtain ⟨q0, q1⟩ := jinj2 h
    subst q0
    subst q1
    exact j_iret hC dX6_run_8
theorem t_X6_caseOf (l : Launch) (E : jE) {a1 : Int32} {a2 : Int32} {a3 : Int32} {M : jM} {r : Int32} (h : f_X6_caseOf a1 a2 a3 M = some r) : jCi l yX6_caseOf cX6_caseOf 3 (some .int) 0 0 E RM GM (fun _ _ => [.int a1, .int a2, .int a3]) M r M := by
  refine jCi_of (own := RX6) (by decide) rfl (fun _ _ => Nat.le_of_ble_eq_true rfl) ?_
  intro Γ hC
  show jJ Γ GM RM 0 [(0, .int a1), (1, .int a2), (2, .int a3)] [] M (jQi Γ RM GM r M)
  unfold f_X6_caseOf at h
  refine j_sipush (v := 192) (pc' := 3) hC dX6_caseOf_0 rfl rfl ?_
  refine j_iload_n 0 (pc' := 4) hC dX6_caseOf_3 rfl rfl ?_
  refine j_imul (pc' := 5) hC dX6_caseOf_4 rfl ?_
  refine j_iconst (v := 3) (pc' := 6) hC dX6_caseOf_5 rfl rfl ?_
  refine j_iload_n 1 (pc' := 7) hC dX6_caseOf_6 rfl rfl ?_
  refine j_imul (pc' := 8) hC dX6_caseOf_7 rfl ?_
  refine j_iadd (pc' := 9) hC dX6_caseOf_8 rfl ?_
  refine j_iload_n 2 (pc' := 10) hC dX6_caseOf_9 rfl rfl ?_
  refine j_iconst (v := 2) (pc' := 11) hC dX6_caseOf_10 rfl rfl ?_
  obtain ⟨v2, hm4, h⟩ := jlet_s h
  have K3 : jJ Γ GM RM 19 [(0, .int a1), (1, .int a2), (2, .int a3)] [.int v2, .int (((192 : Int32) * a1) + ((3 : Int32) * a2))] M (jQi Γ RM GM r M) := by
    refine j_iadd (pc' := 20) hC dX6_caseOf_19 rfl ?_
    have q8 := jinj1 h
    subst q8
    exact j_iret hC dX6_caseOf_20
  refine j_icmp_le (tgt := 18) (pc' := 14) hC dX6_caseOf_11 (by decide) rfl (fun c5 => ?_) (fun c5 => ?_)
  · have hm4 := jit_t c5 hm4
    refine j_iload_n 2 (pc' := 19) hC dX6_caseOf_18 rfl rfl ?_
    subst hm4
    exact j_sub [0, 1, 2] rfl K3
  · have hm4 := jit_f c5 hm4
    refine j_iconst (v := 2) (pc' := 15) hC dX6_caseOf_14 rfl rfl ?_
    refine j_goto (tgt := 19) (pc' := 0) hC dX6_caseOf_15 (by decide) ?_
    subst hm4
    exact j_sub [0, 1, 2] rfl K3
theorem t_X6_behind (l : Launch) (E : jE) {a1 : Int32} {a2 : Int32} {a3 : Int32} {M : jM} {r : Int32} (h : f_X6_behind a1 a2 a3 M = some r) : jCi l yX6_behind cX6_behind 6 (some .int) 1 22 E RM GM (fun a _ => [.ref (a 0), .int a1, .int a2, .int a3]) M r M := by
  refine jCi_of (own := RX6) (by decide) rfl (fun _ _ => Nat.le_of_ble_eq_true rfl) ?_
  intro Γ hC
  show jJ Γ GM RM 0 [(0, .ref (jad Γ 0)), (1, .int a1), (2, .int a2), (3, .int a3)] [] M (jQi Γ RM GM r M)
  unfold f_X6_behind at h
  refine j_iload_n 1 (pc' := 1) hC dX6_behind_0 rfl rfl ?_
  refine j_iconst (v := 3) (pc' := 2) hC dX6_behind_1 rfl rfl ?_
  refine j_idiv (pc' := 3) hC dX6_behind_2 rfl (by decide) ?_
  refine j_bipush (v := 64) (pc' := 5) hC dX6_behind_3 rfl rfl ?_
  refine j_irem (pc' := 6) hC dX6_behind_5 rfl (by decide) ?_
  refine j_iload_n 3 (pc' := 7) hC dX6_behind_6 rfl rfl ?_
  obtain ⟨v2, hm4, h⟩ := jlet_s h
  have K3 : jJ Γ GM RM 17 [(0, .ref (jad Γ 0)), (1, .int a1), (2, .int a2), (3, .int a3)] [.int v2, .int ((a1 / (3 : Int32)) - (a1 / (3 : Int32)) / (64 : Int32) * (64 : Int32))] M (jQi Γ RM GM r M) := by
    refine j_ior (pc' := 18) hC dX6_behind_17 rfl ?_
    obtain ⟨v6, ev6, h⟩ := jlet_s h
    refine j_istore (pc' := 20) hC dX6_behind_18 rfl ev6 (by decide) rfl ?_
    refine j_iload_n 4 (pc' := 21) hC dX6_behind_20 rfl rfl ?_
    obtain ⟨v12, hm14, h⟩ := jb1_s h
    have K13 : jJ Γ GM RM 46 [(0, .ref (jad Γ 0)), (1, .int a1), (2, .int a2), (3, .int a3), (4, .int v6)] [.int v12] M (jQi Γ RM GM r M) := by
      refine j_istore (pc' := 48) hC dX6_behind_46 rfl rfl (by decide) rfl ?_
      refine j_iload_n 2 (pc' := 49) hC dX6_behind_48 rfl rfl ?_
      refine j_sipush (v := 192) (pc' := 52) hC dX6_behind_49 rfl rfl ?_
      refine j_idiv (pc' := 53) hC dX6_behind_52 rfl (by decide) ?_
      refine j_iconst (v := 1) (pc' := 54) hC dX6_behind_53 rfl rfl ?_
      refine j_iload_n 3 (pc' := 55) hC dX6_behind_54 rfl rfl ?_
      refine j_ishl (pc' := 56) hC dX6_behind_55 rfl ?_
      refine j_ior (pc' := 57) hC dX6_behind_56 rfl ?_
      refine j_iload 5 (pc' := 59) hC dX6_behind_57 rfl rfl ?_
      refine j_iload 0 (pc' := 61) hC dX6_behind_59 rfl rfl ?_
      obtain ⟨r20, hc21, h⟩ := jb1_s h
      refine j_callSi [.int ((a1 / (192 : Int32)) ||| ((1 : Int32) <<< (a2 &&& 31))), .int v6, .int v12] (pc' := 64) hC dX6_behind_61 rfl (t_X6_caseOf _ _ hc21) cs_X6_240 ⟨⟨Nat.le_of_ble_eq_true rfl, Nat.le_of_ble_eq_true rfl⟩, rfl, Nat.le_of_ble_eq_true rfl⟩ rfl rfl ?_
      have q8 := jinj1 h
      subst q8
      exact j_iret hC dX6_behind_64
    refine j_if_lt (tgt := 41) (pc' := 24) hC dX6_behind_21 (by decide) rfl (fun c15 => ?_) (fun c15 => ?_)
    · have hm14 := jit_t c15 hm14
      refine j_iload_n 2 (pc' := 42) hC dX6_behind_41 rfl rfl ?_
      refine j_iconst (v := 3) (pc' := 43) hC dX6_behind_42 rfl rfl ?_
      refine j_irem (pc' := 44) hC dX6_behind_43 rfl (by decide) ?_
      refine j_iconst (v := 1) (pc' := 45) hC dX6_behind_44 rfl rfl ?_
      refine j_iadd (pc' := 46) hC dX6_behind_45 rfl ?_
      have q8 := jinj1 hm14
      subst q8
      exact j_sub [1, 2, 3, 4, 0] rfl K13
    · have hm14 := jit_f c15 hm14
      refine j_aload_n 1 (pc' := 25) hC dX6_behind_24 rfl rfl ?_
      refine j_getr' (o2 := 5) (pc' := 28) hC dX6_behind_25 rfl fi_X6_22 gm0 rfl ?_
      refine j_iload_n 4 (pc' := 29) hC dX6_behind_28 rfl rfl ?_
      obtain ⟨g16, hm14⟩ := jg_s hm14
      refine j_iald (pc' := 30) hC dX6_behind_29 rfl gm5 g16 ?_
      refine j_iconst (v := 1) (pc' := 31) hC dX6_behind_30 rfl rfl ?_
      obtain ⟨r17, hc18, hm14⟩ := jb1_s hm14
      refine j_callSi [.int (gi M 5 a3.toNatClampNeg), .int (1 : Int32)] (pc' := 34) hC dX6_behind_31 rfl (t_X6_isKind _ _ hc18) cs_X6_195 ⟨⟨Nat.le_of_ble_eq_true rfl, Nat.le_of_ble_eq_true rfl⟩, rfl, Nat.le_of_ble_eq_true rfl⟩ rfl rfl ?_
      refine j_if_eq (tgt := 41) (pc' := 37) hC dX6_behind_34 (by decide) rfl (fun c19 => ?_) (fun c19 => ?_)
      · have hm14 := jit_t c19 hm14
        refine j_iload_n 2 (pc' := 42) hC dX6_behind_41 rfl rfl ?_
        refine j_iconst (v := 3) (pc' := 43) hC dX6_behind_42 rfl rfl ?_
        refine j_irem (pc' := 44) hC dX6_behind_43 rfl (by decide) ?_
        refine j_iconst (v := 1) (pc' := 45) hC dX6_behind_44 rfl rfl ?_
        refine j_iadd (pc' := 46) hC dX6_behind_45 rfl ?_
        have q8 := jinj1 hm14
        subst q8
        exact j_sub [1, 2, 3, 4, 0] rfl K13
      · have hm14 := jit_f c19 hm14
        refine j_iconst (v := 0) (pc' := 38) hC dX6_behind_37 rfl rfl ?_
        refine j_goto (tgt := 46) (pc' := 0) hC dX6_behind_38 (by decide) ?_
        have q8 := jinj1 hm14
        subst q8
        exact j_sub [1, 2, 3, 4, 0] rfl K13
  refine j_if_ge (tgt := 14) (pc' := 10) hC dX6_behind_7 (by decide) rfl (fun c5 => ?_) (fun c5 => ?_)
  · have hm4 := jit_t c5 hm4
    refine j_iconst (v := 1) (pc' := 15) hC dX6_behind_14 rfl rfl ?_
    refine j_iload_n 3 (pc' := 16) hC dX6_behind_15 rfl rfl ?_
    refine j_ishl (pc' := 17) hC dX6_behind_16 rfl ?_
    subst hm4
    exact j_sub [0, 1, 2, 3] rfl K3
  · have hm4 := jit_f c5 hm4
    refine j_iconst (v := 0) (pc' := 11) hC dX6_behind_10 rfl rfl ?_
    refine j_goto (tgt := 17) (pc' := 0) hC dX6_behind_11 (by decide) ?_
    subst hm4
    exact j_sub [0, 1, 2, 3] rfl K3
theorem t_X6_leads (l : Launch) (E : jE) {a1 : Int32} {a2 : Int32} {a3 : Int32} {a4 : Int32} {M : jM} {r : Int32} (h : f_X6_leads a1 a2 a3 a4 M = some r) : jCi l yX6_leads cX6_leads 5 (some .boolean) 4 92 E RM GM (fun a _ => [.ref (a 0), .int a1, .int a2, .int a3, .int a4]) M r M := by
  refine jCi_of (own := RX6) (by decide) rfl (fun _ _ => Nat.le_of_ble_eq_true rfl) ?_
  intro Γ hC
  show jJ Γ GM RM 0 [(0, .ref (jad Γ 0)), (1, .int a1), (2, .int a2), (3, .int a3), (4, .int a4)] [] M (jQi Γ RM GM r M)
  unfold f_X6_leads at h
  refine j_iload 4 (pc' := 2) hC dX6_leads_0 rfl rfl ?_
  refine j_iload_n 2 (pc' := 3) hC dX6_leads_2 rfl rfl ?_
  obtain ⟨r1, hc2, h⟩ := jb1_s h
  refine j_callSi [.int a4, .int a2] (pc' := 6) hC dX6_leads_3 rfl (t_X6_has _ _ hc2) cs_X6_136 ⟨⟨Nat.le_of_ble_eq_true rfl, Nat.le_of_ble_eq_true rfl⟩, rfl, Nat.le_of_ble_eq_true rfl⟩ rfl rfl ?_
  refine j_if_eq (tgt := 47) (pc' := 9) hC dX6_leads_6 (by decide) rfl (fun c3 => ?_) (fun c3 => ?_)
  · have h := jit_t c3 h
    refine j_iconst (v := 0) (pc' := 48) hC dX6_leads_47 rfl rfl ?_
    have q8 := jinj1 h
    subst q8
    exact j_zret hC dX6_leads_48 (by decide)
  · have h := jit_f c3 h
    refine j_iload_n 1 (pc' := 10) hC dX6_leads_9 rfl rfl ?_
    refine j_sipush (v := 192) (pc' := 13) hC dX6_leads_10 rfl rfl ?_
    refine j_idiv (pc' := 14) hC dX6_leads_13 rfl (by decide) ?_
    refine j_iload_n 2 (pc' := 15) hC dX6_leads_14 rfl rfl ?_
    obtain ⟨r4, hc5, h⟩ := jb1_s h
    refine j_callSi [.int (a1 / (192 : Int32)), .int a2] (pc' := 18) hC dX6_leads_15 rfl (t_X6_has _ _ hc5) cs_X6_136 ⟨⟨Nat.le_of_ble_eq_true rfl, Nat.le_of_ble_eq_true rfl⟩, rfl, Nat.le_of_ble_eq_true rfl⟩ rfl rfl ?_
    refine j_if_ne (tgt := 47) (pc' := 21) hC dX6_leads_18 (by decide) rfl (fun c6 => ?_) (fun c6 => ?_)
    · have h := jit_f c6 h
      refine j_iconst (v := 0) (pc' := 48) hC dX6_leads_47 rfl rfl ?_
      have q8 := jinj1 h
      subst q8
      exact j_zret hC dX6_leads_48 (by decide)
    · have h := jit_t c6 h
      refine j_iload_n 3 (pc' := 22) hC dX6_leads_21 rfl rfl ?_
      refine j_if_lt (tgt := 43) (pc' := 25) hC dX6_leads_22 (by decide) rfl (fun c7 => ?_) (fun c7 => ?_)
      · have h := jit_t c7 h
        refine j_iconst (v := 1) (pc' := 44) hC dX6_leads_43 rfl rfl ?_
        refine j_goto (tgt := 48) (pc' := 0) hC dX6_leads_44 (by decide) ?_
        have q8 := jinj1 h
        subst q8
        exact j_zret hC dX6_leads_48 (by decide)
      · have h := jit_f c7 h
        refine j_aload_n 0 (pc' := 26) hC dX6_leads_25 rfl rfl ?_
        refine j_iload_n 3 (pc' := 27) hC dX6_leads_26 rfl rfl ?_
        refine j_iload_n 2 (pc' := 28) hC dX6_leads_27 rfl rfl ?_
        refine j_iload_n 1 (pc' := 29) hC dX6_leads_28 rfl rfl ?_
        refine j_iconst (v := 3) (pc' := 30) hC dX6_leads_29 rfl rfl ?_
        refine j_idiv (pc' := 31) hC dX6_leads_30 rfl (by decide) ?_
        refine j_bipush (v := 64) (pc' := 33) hC dX6_leads_31 rfl rfl ?_
        refine j_irem (pc' := 34) hC dX6_leads_33 rfl (by decide) ?_
        refine j_iload_n 1 (pc' := 35) hC dX6_leads_34 rfl rfl ?_
        refine j_iconst (v := 3) (pc' := 36) hC dX6_leads_35 rfl rfl ?_
        refine j_irem (pc' := 37) hC dX6_leads_36 rfl (by decide) ?_
        obtain ⟨r8, hc9, h⟩ := jb1_s h
        refine j_callVi [.int a3, .int a2, .int ((a1 / (3 : Int32)) - (a1 / (3 : Int32)) / (64 : Int32) * (64 : Int32)), .int (a1 - a1 / (3 : Int32) * (3 : Int32))] (pc' := 40) hC dX6_leads_37 rfl (t_X6_canBe _ _ hc9) gm0 vcl6 cv_X6_210 ⟨⟨Nat.le_of_ble_eq_true rfl, Nat.le_of_ble_eq_true rfl⟩, rfl, Nat.le_of_ble_eq_true rfl⟩ rfl rfl ?_
        refine j_if_eq (tgt := 47) (pc' := 43) hC dX6_leads_40 (by decide) rfl (fun c10 => ?_) (fun c10 => ?_)
        · have h := jit_t c10 h
          refine j_iconst (v := 0) (pc' := 48) hC dX6_leads_47 rfl rfl ?_
          have q8 := jinj1 h
          subst q8
          exact j_zret hC dX6_leads_48 (by decide)
        · have h := jit_f c10 h
          refine j_iconst (v := 1) (pc' := 44) hC dX6_leads_43 rfl rfl ?_
          refine j_goto (tgt := 48) (pc' := 0) hC dX6_leads_44 (by decide) ?_
          have q8 := jinj1 h
          subst q8
          exact j_zret hC dX6_leads_48 (by decide)
