theorem t_X6_deedOf (l : Launch) (E : jE) {a1 : Int32} {a2 : Int32} {M : jM} {r : Int32} (h : f_X6_deedOf a1 a2 M = some r) : jCi l yX6_deedOf cX6_deedOf 3 (some .int) 2 44 E RM GM (fun a _ => [.ref (a 0), .int a1, .int a2]) M r M := by
  refine jCi_of (own := RX6) (by decide) rfl (fun _ _ => Nat.le_of_ble_eq_true rfl) ?_
  intro Γ hC
  show jJ Γ GM RM 0 [(0, .ref (jad Γ 0)), (1, .int a1), (2, .int a2)] [] M (jQi Γ RM GM r M)
  unfold f_X6_deedOf at h
  refine j_iload_n 2 (pc' := 1) hC dX6_deedOf_0 rfl rfl ?_
  refine j_if_ne (tgt := 13) (pc' := 4) hC dX6_deedOf_1 (by decide) rfl (fun c1 => ?_) (fun c1 => ?_)
  · have h := jit_f c1 h
    refine j_iload_n 2 (pc' := 14) hC dX6_deedOf_13 rfl rfl ?_
    refine j_iconst (v := 1) (pc' := 15) hC dX6_deedOf_14 rfl rfl ?_
    refine j_icmp_ne (tgt := 27) (pc' := 18) hC dX6_deedOf_15 (by decide) rfl (fun c2 => ?_) (fun c2 => ?_)
    · have h := jit_f c2 h
      refine j_iload_n 2 (pc' := 28) hC dX6_deedOf_27 rfl rfl ?_
      refine j_iconst (v := 2) (pc' := 29) hC dX6_deedOf_28 rfl rfl ?_
      refine j_icmp_ne (tgt := 41) (pc' := 32) hC dX6_deedOf_29 (by decide) rfl (fun c3 => ?_) (fun c3 => ?_)
      · have h := jit_f c3 h
        refine j_iload_n 2 (pc' := 42) hC dX6_deedOf_41 rfl rfl ?_
        refine j_iconst (v := 3) (pc' := 43) hC dX6_deedOf_42 rfl rfl ?_
        refine j_icmp_ne (tgt := 59) (pc' := 46) hC dX6_deedOf_43 (by decide) rfl (fun c4 => ?_) (fun c4 => ?_)
        · have h := jit_f c4 h
          refine j_aload_n 0 (pc' := 60) hC dX6_deedOf_59 rfl rfl ?_
          refine j_iload_n 1 (pc' := 61) hC dX6_deedOf_60 rfl rfl ?_
          obtain ⟨r5, hc6, h⟩ := jb1_s h
          refine j_callVi [.int a1] (pc' := 64) hC dX6_deedOf_61 rfl (t_X6_allNeeds _ _ hc6) gm0 vcl6 cv_X6_165 ⟨⟨Nat.le_of_ble_eq_true rfl, Nat.le_of_ble_eq_true rfl⟩, rfl, Nat.le_of_ble_eq_true rfl⟩ rfl rfl ?_
          have q8 := jinj1 h
          subst q8
          exact j_iret hC dX6_deedOf_64
        · have h := jit_t c4 h
          refine j_aload_n 0 (pc' := 47) hC dX6_deedOf_46 rfl rfl ?_
          refine j_getr' (o2 := 12) (pc' := 50) hC dX6_deedOf_47 rfl fi_X6_43 gm0 rfl ?_
          refine j_iconst (v := 3) (pc' := 51) hC dX6_deedOf_50 rfl rfl ?_
          refine j_iald (pc' := 52) hC dX6_deedOf_51 rfl gm12 (by decide) ?_
          refine j_iload_n 1 (pc' := 53) hC dX6_deedOf_52 rfl rfl ?_
          refine j_ishr (pc' := 54) hC dX6_deedOf_53 rfl ?_
          refine j_iconst (v := 1) (pc' := 55) hC dX6_deedOf_54 rfl rfl ?_
          refine j_iand (pc' := 56) hC dX6_deedOf_55 rfl ?_
          refine j_goto (tgt := 64) (pc' := 0) hC dX6_deedOf_56 (by decide) ?_
          have q8 := jinj1 h
          subst q8
          exact j_iret hC dX6_deedOf_64
      · have h := jit_t c3 h
        refine j_aload_n 0 (pc' := 33) hC dX6_deedOf_32 rfl rfl ?_
        refine j_getr' (o2 := 7) (pc' := 36) hC dX6_deedOf_33 rfl fi_X6_28 gm0 rfl ?_
        refine j_iload_n 1 (pc' := 37) hC dX6_deedOf_36 rfl rfl ?_
        obtain ⟨g7, h⟩ := jg_s h
        refine j_iald (pc' := 38) hC dX6_deedOf_37 rfl gm7 g7 ?_
        refine j_goto (tgt := 64) (pc' := 0) hC dX6_deedOf_38 (by decide) ?_
        have q8 := jinj1 h
        subst q8
        exact j_iret hC dX6_deedOf_64
    · have h := jit_t c2 h
      refine j_aload_n 0 (pc' := 19) hC dX6_deedOf_18 rfl rfl ?_
      refine j_getr' (o2 := 6) (pc' := 22) hC dX6_deedOf_19 rfl fi_X6_25 gm0 rfl ?_
      refine j_iload_n 1 (pc' := 23) hC dX6_deedOf_22 rfl rfl ?_
      obtain ⟨g8, h⟩ := jg_s h
      refine j_iald (pc' := 24) hC dX6_deedOf_23 rfl gm6 g8 ?_
      refine j_goto (tgt := 64) (pc' := 0) hC dX6_deedOf_24 (by decide) ?_
      have q8 := jinj1 h
      subst q8
      exact j_iret hC dX6_deedOf_64
  · have h := jit_t c1 h
    refine j_aload_n 0 (pc' := 5) hC dX6_deedOf_4 rfl rfl ?_
    refine j_getr' (o2 := 5) (pc' := 8) hC dX6_deedOf_5 rfl fi_X6_22 gm0 rfl ?_
    refine j_iload_n 1 (pc' := 9) hC dX6_deedOf_8 rfl rfl ?_
    obtain ⟨g9, h⟩ := jg_s h
    refine j_iald (pc' := 10) hC dX6_deedOf_9 rfl gm5 g9 ?_
    refine j_goto (tgt := 64) (pc' := 0) hC dX6_deedOf_10 (by decide) ?_
    have q8 := jinj1 h
    subst q8
    exact j_iret hC dX6_deedOf_64
theorem t_X6_deed (l : Launch) (E : jE) {a1 : Int32} {a2 : Int32} {M : jM} {r : Int32} {M' : jM} (h : f_X6_deed a1 a2 M = some (r, M')) : jCi l yX6_deed cX6_deed 3 (some .int) 3 66 E RM GM (fun a _ => [.ref (a 0), .int a1, .int a2]) M r M' := by
  refine jCi_of (own := RX6) (by decide) rfl (fun _ _ => Nat.le_of_ble_eq_true rfl) ?_
  intro Γ hC
  show jJ Γ GM RM 0 [(0, .ref (jad Γ 0)), (1, .int a1), (2, .int a2)] [] M (jQi Γ RM GM r M')
  unfold f_X6_deed at h
  refine j_aload_n 0 (pc' := 1) hC dX6_deed_0 rfl rfl ?_
  refine j_iload_n 1 (pc' := 2) hC dX6_deed_1 rfl rfl ?_
  obtain ⟨r1, hc2, h⟩ := jb1_s h
  refine j_callVi [.int a1] (pc' := 5) hC dX6_deed_2 rfl (t_X6_isDeed _ _ hc2) gm0 vcl6 cv_X6_168 ⟨⟨Nat.le_of_ble_eq_true rfl, Nat.le_of_ble_eq_true rfl⟩, rfl, Nat.le_of_ble_eq_true rfl⟩ rfl rfl ?_
  refine j_if_eq (tgt := 20) (pc' := 8) hC dX6_deed_5 (by decide) rfl (fun c3 => ?_) (fun c3 => ?_)
  · have h := jit_t c3 h
    refine j_iconst (v := -1) (pc' := 21) hC dX6_deed_20 rfl rfl ?_
    obtain ⟨q0, q1⟩ := jinj2 h
    subst q0
    subst q1
    exact j_iret hC dX6_deed_21
  · have h := jit_f c3 h
    refine j_iload_n 2 (pc' := 9) hC dX6_deed_8 rfl rfl ?_
    refine j_i2l (pc' := 10) hC dX6_deed_9 rfl ?_
    refine j_lconst (v := 0) (pc' := 11) hC dX6_deed_10 rfl rfl ?_
    refine j_ldc2 (pc' := 14) hC dX6_deed_11 rfl ck_X6_171 ?_
    obtain ⟨r4, hc5, h⟩ := jb1_s h
    refine j_callSi [.long a2.toInt64, .long (0 : Int64), .long (4 : Int64)] (pc' := 17) hC dX6_deed_14 rfl (t_X6_in _ _ hc5) cs_X6_93 ⟨⟨Nat.le_of_ble_eq_true rfl, Nat.le_of_ble_eq_true rfl⟩, rfl, Nat.le_of_ble_eq_true rfl⟩ rfl rfl ?_
    refine j_if_ne (tgt := 22) (pc' := 20) hC dX6_deed_17 (by decide) rfl (fun c6 => ?_) (fun c6 => ?_)
    · have h := jit_f c6 h
      refine j_aload_n 0 (pc' := 23) hC dX6_deed_22 rfl rfl ?_
      refine j_iconst (v := 1) (pc' := 24) hC dX6_deed_23 rfl rfl ?_
      refine j_aload_n 0 (pc' := 25) hC dX6_deed_24 rfl rfl ?_
      refine j_iload_n 1 (pc' := 26) hC dX6_deed_25 rfl rfl ?_
      refine j_iload_n 2 (pc' := 27) hC dX6_deed_26 rfl rfl ?_
      obtain ⟨r7, hc8, h⟩ := jb1_s h
      refine j_callVi [.int a1, .int a2] (pc' := 30) hC dX6_deed_27 rfl (t_X6_deedOf _ _ hc8) gm0 vcl6 cv_X6_173 ⟨⟨Nat.le_of_ble_eq_true rfl, Nat.le_of_ble_eq_true rfl⟩, rfl, Nat.le_of_ble_eq_true rfl⟩ rfl rfl ?_
      obtain ⟨r9, M10, hc11, h⟩ := jb2_s h
      refine j_callVi [.int (1 : Int32), .int r7] (pc' := 33) hC dX6_deed_30 rfl (t_X6_answer _ _ hc11) gm0 vcl6 cv_X6_111 ⟨⟨Nat.le_of_ble_eq_true rfl, Nat.le_of_ble_eq_true rfl⟩, rfl, Nat.le_of_ble_eq_true rfl⟩ rfl rfl ?_
      obtain ⟨q0, q1⟩ := jinj2 h
      subst q0
      subst q1
      exact j_iret hC dX6_deed_33
    · have h := jit_t c6 h
      refine j_iconst (v := -1) (pc' := 21) hC dX6_deed_20 rfl rfl ?_
      obtain ⟨q0, q1⟩ := jinj2 h
      subst q0
      subst q1
      exact j_iret hC dX6_deed_21
theorem t_X6_isNight (l : Launch) (E : jE) {a1 : Int32} {M : jM} {r : Int32} (h : f_X6_isNight a1 M = some r) : jCi l yX6_isNight cX6_isNight 2 (some .boolean) 1 25 E RM GM (fun a _ => [.ref (a 0), .int a1]) M r M := by
  refine jCi_of (own := RX6) (by decide) rfl (fun _ _ => Nat.le_of_ble_eq_true rfl) ?_
  intro Γ hC
  show jJ Γ GM RM 0 [(0, .ref (jad Γ 0)), (1, .int a1)] [] M (jQi Γ RM GM r M)
  unfold f_X6_isNight at h
  refine j_aload_n 0 (pc' := 1) hC dX6_isNight_0 rfl rfl ?_
  refine j_getr' (o2 := 8) (pc' := 4) hC dX6_isNight_1 rfl fi_X6_31 gm0 rfl ?_
  refine j_iload_n 1 (pc' := 5) hC dX6_isNight_4 rfl rfl ?_
  obtain ⟨g1, h⟩ := jg_s h
  refine j_iald (pc' := 6) hC dX6_isNight_5 rfl gm8 g1 ?_
  refine j_i2l (pc' := 7) hC dX6_isNight_6 rfl ?_
  refine j_ldc2 (pc' := 10) hC dX6_isNight_7 rfl ck_X6_176 ?_
  refine j_ldc2 (pc' := 13) hC dX6_isNight_10 rfl ck_X6_178 ?_
  obtain ⟨r2, hc3, h⟩ := jb1_s h
  refine j_callSi [.long (gi M 8 a1.toNatClampNeg).toInt64, .long (6 : Int64), .long (17 : Int64)] (pc' := 16) hC dX6_isNight_13 rfl (t_X6_in _ _ hc3) cs_X6_93 ⟨⟨Nat.le_of_ble_eq_true rfl, Nat.le_of_ble_eq_true rfl⟩, rfl, Nat.le_of_ble_eq_true rfl⟩ rfl rfl ?_
  refine j_if_ne (tgt := 23) (pc' := 19) hC dX6_isNight_16 (by decide) rfl (fun c4 => ?_) (fun c4 => ?_)
  · have h := jit_f c4 h
    refine j_iconst (v := 0) (pc' := 24) hC dX6_isNight_23 rfl rfl ?_
    have q8 := jinj1 h
    subst q8
    exact j_zret hC dX6_isNight_24 (by decide)
  · have h := jit_t c4 h
    refine j_iconst (v := 1) (pc' := 20) hC dX6_isNight_19 rfl rfl ?_
    refine j_goto (tgt := 24) (pc' := 0) hC dX6_isNight_20 (by decide) ?_
    have q8 := jinj1 h
    subst q8
    exact j_zret hC dX6_isNight_24 (by decide)
theorem t_X6_comes (l : Launch) (E : jE) {a1 : Int32} {M : jM} {r : Int32} (h : f_X6_comes a1 M = some r) : jCi l yX6_comes cX6_comes 2 (some .int) 0 0 E RM GM (fun a _ => [.ref (a 0), .int a1]) M r M := by
  refine jCi_of (own := RX6) (by decide) rfl (fun _ _ => Nat.le_of_ble_eq_true rfl) ?_
  intro Γ hC
  show jJ Γ GM RM 0 [(0, .ref (jad Γ 0)), (1, .int a1)] [] M (jQi Γ RM GM r M)
  unfold f_X6_comes at h
  refine j_aload_n 0 (pc' := 1) hC dX6_comes_0 rfl rfl ?_
  refine j_getr' (o2 := 9) (pc' := 4) hC dX6_comes_1 rfl fi_X6_34 gm0 rfl ?_
  refine j_iload_n 1 (pc' := 5) hC dX6_comes_4 rfl rfl ?_
  obtain ⟨g1, h⟩ := jg_s h
  refine j_iald (pc' := 6) hC dX6_comes_5 rfl gm9 g1 ?_
  refine j_aload_n 0 (pc' := 7) hC dX6_comes_6 rfl rfl ?_
  refine j_getr' (o2 := 11) (pc' := 10) hC dX6_comes_7 rfl fi_X6_40 gm0 rfl ?_
  refine j_aload_n 0 (pc' := 11) hC dX6_comes_10 rfl rfl ?_
  refine j_getr' (o2 := 10) (pc' := 14) hC dX6_comes_11 rfl fi_X6_37 gm0 rfl ?_
  refine j_iload_n 1 (pc' := 15) hC dX6_comes_14 rfl rfl ?_
  obtain ⟨g2, h⟩ := jg_s h
  refine j_iald (pc' := 16) hC dX6_comes_15 rfl gm10 g2 ?_
  obtain ⟨g3, h⟩ := jg_s h
  refine j_iald (pc' := 17) hC dX6_comes_16 rfl gm11 g3 ?_
  refine j_iadd (pc' := 18) hC dX6_comes_17 rfl ?_
  have q8 := jinj1 h
  subst q8
  exact j_iret hC dX6_comes_18
theorem t_X6_whereIs (l : Launch) (E : jE) {a1 : Int32} {M : jM} {r : Int32} (h : f_X6_whereIs a1 M = some r) : jCi l yX6_whereIs cX6_whereIs 2 (some .int) 1 21 E RM GM (fun a _ => [.ref (a 0), .int a1]) M r M := by
  refine jCi_of (own := RX6) (by decide) rfl (fun _ _ => Nat.le_of_ble_eq_true rfl) ?_
  intro Γ hC
  show jJ Γ GM RM 0 [(0, .ref (jad Γ 0)), (1, .int a1)] [] M (jQi Γ RM GM r M)
  unfold f_X6_whereIs at h
  refine j_aload_n 0 (pc' := 1) hC dX6_whereIs_0 rfl rfl ?_
  refine j_getr' (o2 := 12) (pc' := 4) hC dX6_whereIs_1 rfl fi_X6_43 gm0 rfl ?_
  refine j_iconst (v := 1) (pc' := 5) hC dX6_whereIs_4 rfl rfl ?_
  refine j_iald (pc' := 6) hC dX6_whereIs_5 rfl gm12 (by decide) ?_
  refine j_iload_n 1 (pc' := 7) hC dX6_whereIs_6 rfl rfl ?_
  obtain ⟨r1, hc2, h⟩ := jb1_s h
  refine j_callSi [.int (gi M 12 (1 : Int32).toNatClampNeg), .int a1] (pc' := 10) hC dX6_whereIs_7 rfl (t_X6_has _ _ hc2) cs_X6_136 ⟨⟨Nat.le_of_ble_eq_true rfl, Nat.le_of_ble_eq_true rfl⟩, rfl, Nat.le_of_ble_eq_true rfl⟩ rfl rfl ?_
  refine j_if_eq (tgt := 17) (pc' := 13) hC dX6_whereIs_10 (by decide) rfl (fun c3 => ?_) (fun c3 => ?_)
  · have h := jit_t c3 h
    refine j_aload_n 0 (pc' := 18) hC dX6_whereIs_17 rfl rfl ?_
    refine j_getr' (o2 := 12) (pc' := 21) hC dX6_whereIs_18 rfl fi_X6_43 gm0 rfl ?_
    refine j_iconst (v := 2) (pc' := 22) hC dX6_whereIs_21 rfl rfl ?_
    refine j_iald (pc' := 23) hC dX6_whereIs_22 rfl gm12 (by decide) ?_
    refine j_iload_n 1 (pc' := 24) hC dX6_whereIs_23 rfl rfl ?_
    obtain ⟨r4, hc5, h⟩ := jb1_s h
    refine j_callSi [.int (gi M 12 (2 : Int32).toNatClampNeg), .int a1] (pc' := 27) hC dX6_whereIs_24 rfl (t_X6_has _ _ hc5) cs_X6_136 ⟨⟨Nat.le_of_ble_eq_true rfl, Nat.le_of_ble_eq_true rfl⟩, rfl, Nat.le_of_ble_eq_true rfl⟩ rfl rfl ?_
    refine j_if_eq (tgt := 34) (pc' := 30) hC dX6_whereIs_27 (by decide) rfl (fun c6 => ?_) (fun c6 => ?_)
    · have h := jit_t c6 h
      refine j_aload_n 0 (pc' := 35) hC dX6_whereIs_34 rfl rfl ?_
      refine j_iload_n 1 (pc' := 36) hC dX6_whereIs_35 rfl rfl ?_
      obtain ⟨r7, hc8, h⟩ := jb1_s h
      refine j_callVi [.int a1] (pc' := 39) hC dX6_whereIs_36 rfl (t_X6_comes _ _ hc8) gm0 vcl6 cv_X6_180 ⟨⟨Nat.le_of_ble_eq_true rfl, Nat.le_of_ble_eq_true rfl⟩, rfl, Nat.le_of_ble_eq_true rfl⟩ rfl rfl ?_
      refine j_aload_n 0 (pc' := 40) hC dX6_whereIs_39 rfl rfl ?_
      refine j_getr' (o2 := 12) (pc' := 43) hC dX6_whereIs_40 rfl fi_X6_43 gm0 rfl ?_
      refine j_iconst (v := 0) (pc' := 44) hC dX6_whereIs_43 rfl rfl ?_
      refine j_iald (pc' := 45) hC dX6_whereIs_44 rfl gm12 (by decide) ?_
      refine j_icmp_gt (tgt := 52) (pc' := 48) hC dX6_whereIs_45 (by decide) rfl (fun c9 => ?_) (fun c9 => ?_)
      · have h := jit_t c9 h
        refine j_iconst (v := 0) (pc' := 53) hC dX6_whereIs_52 rfl rfl ?_
        have q8 := jinj1 h
        subst q8
        exact j_iret hC dX6_whereIs_53
      · have h := jit_f c9 h
        refine j_iconst (v := 1) (pc' := 49) hC dX6_whereIs_48 rfl rfl ?_
        refine j_goto (tgt := 53) (pc' := 0) hC dX6_whereIs_49 (by decide) ?_
        have q8 := jinj1 h
        subst q8
        exact j_iret hC dX6_whereIs_53
    · have h := jit_f c6 h
      refine j_iconst (v := 3) (pc' := 31) hC dX6_whereIs_30 rfl rfl ?_
      refine j_goto (tgt := 53) (pc' := 0) hC dX6_whereIs_31 (by decide) ?_
      have q8 := jinj1 h
      subst q8
      exact j_iret hC dX6_whereIs_53
  · have h := jit_f c3 h
    refine j_iconst (v := 2) (pc' := 14) hC dX6_whereIs_13 rfl rfl ?_
    refine j_goto (tgt := 53) (pc' := 0) hC dX6_whereIs_14 (by decide) ?_
    have q8 := jinj1 h
    subst q8
    exact j_iret hC dX6_whereIs_53
theorem t_X6_hourOf (l : Launch) (E : jE) {a1 : Int32} {a2 : Int32} {M : jM} {r : Int32} (h : f_X6_hourOf a1 a2 M = some r) : jCi l yX6_hourOf cX6_hourOf 3 (some .int) 2 46 E RM GM (fun a _ => [.ref (a 0), .int a1, .int a2]) M r M := by
  refine jCi_of (own := RX6) (by decide) rfl (fun _ _ => Nat.le_of_ble_eq_true rfl) ?_
  intro Γ hC
  show jJ Γ GM RM 0 [(0, .ref (jad Γ 0)), (1, .int a1), (2, .int a2)] [] M (jQi Γ RM GM r M)
  unfold f_X6_hourOf at h
  refine j_iload_n 2 (pc' := 1) hC dX6_hourOf_0 rfl rfl ?_
  refine j_if_ne (tgt := 13) (pc' := 4) hC dX6_hourOf_1 (by decide) rfl (fun c1 => ?_) (fun c1 => ?_)
  · have h := jit_f c1 h
    refine j_iload_n 2 (pc' := 14) hC dX6_hourOf_13 rfl rfl ?_
    refine j_iconst (v := 1) (pc' := 15) hC dX6_hourOf_14 rfl rfl ?_
    refine j_icmp_ne (tgt := 34) (pc' := 18) hC dX6_hourOf_15 (by decide) rfl (fun c2 => ?_) (fun c2 => ?_)
    · have h := jit_f c2 h
      refine j_iload_n 2 (pc' := 35) hC dX6_hourOf_34 rfl rfl ?_
      refine j_iconst (v := 2) (pc' := 36) hC dX6_hourOf_35 rfl rfl ?_
      refine j_icmp_ne (tgt := 47) (pc' := 39) hC dX6_hourOf_36 (by decide) rfl (fun c3 => ?_) (fun c3 => ?_)
      · have h := jit_f c3 h
        refine j_iload_n 2 (pc' := 48) hC dX6_hourOf_47 rfl rfl ?_
        refine j_iconst (v := 3) (pc' := 49) hC dX6_hourOf_48 rfl rfl ?_
        refine j_icmp_ne (tgt := 60) (pc' := 52) hC dX6_hourOf_49 (by decide) rfl (fun c4 => ?_) (fun c4 => ?_)
        · have h := jit_f c4 h
          refine j_aload_n 0 (pc' := 61) hC dX6_hourOf_60 rfl rfl ?_
          refine j_getr' (o2 := 12) (pc' := 64) hC dX6_hourOf_61 rfl fi_X6_43 gm0 rfl ?_
          refine j_iconst (v := 5) (pc' := 65) hC dX6_hourOf_64 rfl rfl ?_
          refine j_iload_n 1 (pc' := 66) hC dX6_hourOf_65 rfl rfl ?_
          refine j_iadd (pc' := 67) hC dX6_hourOf_66 rfl ?_
          obtain ⟨g5, h⟩ := jg_s h
          refine j_iald (pc' := 68) hC dX6_hourOf_67 rfl gm12 g5 ?_
          have q8 := jinj1 h
          subst q8
          exact j_iret hC dX6_hourOf_68
        · have h := jit_t c4 h
          refine j_aload_n 0 (pc' := 53) hC dX6_hourOf_52 rfl rfl ?_
          refine j_iload_n 1 (pc' := 54) hC dX6_hourOf_53 rfl rfl ?_
          obtain ⟨r6, hc7, h⟩ := jb1_s h
          refine j_callVi [.int a1] (pc' := 57) hC dX6_hourOf_54 rfl (t_X6_whereIs _ _ hc7) gm0 vcl6 cv_X6_186 ⟨⟨Nat.le_of_ble_eq_true rfl, Nat.le_of_ble_eq_true rfl⟩, rfl, Nat.le_of_ble_eq_true rfl⟩ rfl rfl ?_
          refine j_goto (tgt := 68) (pc' := 0) hC dX6_hourOf_57 (by decide) ?_
          have q8 := jinj1 h
          subst q8
          exact j_iret hC dX6_hourOf_68
      · have h := jit_t c3 h
        refine j_aload_n 0 (pc' := 40) hC dX6_hourOf_39 rfl rfl ?_
        refine j_iload_n 1 (pc' := 41) hC dX6_hourOf_40 rfl rfl ?_
        obtain ⟨r8, hc9, h⟩ := jb1_s h
        refine j_callVi [.int a1] (pc' := 44) hC dX6_hourOf_41 rfl (t_X6_comes _ _ hc9) gm0 vcl6 cv_X6_180 ⟨⟨Nat.le_of_ble_eq_true rfl, Nat.le_of_ble_eq_true rfl⟩, rfl, Nat.le_of_ble_eq_true rfl⟩ rfl rfl ?_
        refine j_goto (tgt := 68) (pc' := 0) hC dX6_hourOf_44 (by decide) ?_
        have q8 := jinj1 h
        subst q8
        exact j_iret hC dX6_hourOf_68
    · have h := jit_t c2 h
      refine j_aload_n 0 (pc' := 19) hC dX6_hourOf_18 rfl rfl ?_
      refine j_iload_n 1 (pc' := 20) hC dX6_hourOf_19 rfl rfl ?_
      obtain ⟨r10, hc11, h⟩ := jb1_s h
      refine j_callVi [.int a1] (pc' := 23) hC dX6_hourOf_20 rfl (t_X6_isNight _ _ hc11) gm0 vcl6 cv_X6_183 ⟨⟨Nat.le_of_ble_eq_true rfl, Nat.le_of_ble_eq_true rfl⟩, rfl, Nat.le_of_ble_eq_true rfl⟩ rfl rfl ?_
      refine j_if_eq (tgt := 30) (pc' := 26) hC dX6_hourOf_23 (by decide) rfl (fun c12 => ?_) (fun c12 => ?_)
      · have h := jit_t c12 h
        refine j_iconst (v := 0) (pc' := 31) hC dX6_hourOf_30 rfl rfl ?_
        refine j_goto (tgt := 68) (pc' := 0) hC dX6_hourOf_31 (by decide) ?_
        have q8 := jinj1 h
        subst q8
        exact j_iret hC dX6_hourOf_68
      · have h := jit_f c12 h
        refine j_iconst (v := 1) (pc' := 27) hC dX6_hourOf_26 rfl rfl ?_
        refine j_goto (tgt := 68) (pc' := 0) hC dX6_hourOf_27 (by decide) ?_
        have q8 := jinj1 h
        subst q8
        exact j_iret hC dX6_hourOf_68
  · have h := jit_t c1 h
    refine j_aload_n 0 (pc' := 5) hC dX6_hourOf_4 rfl rfl ?_
    refine j_getr' (o2 := 8) (pc' := 8) hC dX6_hourOf_5 rfl fi_X6_31 gm0 rfl ?_
    refine j_iload_n 1 (pc' := 9) hC dX6_hourOf_8 rfl rfl ?_
    obtain ⟨g13, h⟩ := jg_s h
    refine j_iald (pc' := 10) hC dX6_hourOf_9 rfl gm8 g13 ?_
    refine j_goto (tgt := 68) (pc' := 0) hC dX6_hourOf_10 (by decide) ?_
    have q8 := jinj1 h
    subst q8
    exact j_iret hC dX6_hourOf_68
theorem t_X6_hour (l : Launch) (E : jE) {a1 : Int32} {a2 : Int32} {M : jM} {r : Int32} {M' : jM} (h : f_X6_hour a1 a2 M = some (r, M')) : jCi l yX6_hour cX6_hour 3 (some .int) 3 68 E RM GM (fun a _ => [.ref (a 0), .int a1, .int a2]) M r M' := by
  refine jCi_of (own := RX6) (by decide) rfl (fun _ _ => Nat.le_of_ble_eq_true rfl) ?_
  intro Γ hC
  show jJ Γ GM RM 0 [(0, .ref (jad Γ 0)), (1, .int a1), (2, .int a2)] [] M (jQi Γ RM GM r M')
  unfold f_X6_hour at h
  refine j_aload_n 0 (pc' := 1) hC dX6_hour_0 rfl rfl ?_
  refine j_iload_n 1 (pc' := 2) hC dX6_hour_1 rfl rfl ?_
  obtain ⟨r1, hc2, h⟩ := jb1_s h
  refine j_callVi [.int a1] (pc' := 5) hC dX6_hour_2 rfl (t_X6_isHour _ _ hc2) gm0 vcl6 cv_X6_189 ⟨⟨Nat.le_of_ble_eq_true rfl, Nat.le_of_ble_eq_true rfl⟩, rfl, Nat.le_of_ble_eq_true rfl⟩ rfl rfl ?_
  refine j_if_eq (tgt := 20) (pc' := 8) hC dX6_hour_5 (by decide) rfl (fun c3 => ?_) (fun c3 => ?_)
  · have h := jit_t c3 h
    refine j_iconst (v := -1) (pc' := 21) hC dX6_hour_20 rfl rfl ?_
    obtain ⟨q0, q1⟩ := jinj2 h
    subst q0
    subst q1
    exact j_iret hC dX6_hour_21
  · have h := jit_f c3 h
    refine j_iload_n 2 (pc' := 9) hC dX6_hour_8 rfl rfl ?_
    refine j_i2l (pc' := 10) hC dX6_hour_9 rfl ?_
    refine j_lconst (v := 0) (pc' := 11) hC dX6_hour_10 rfl rfl ?_
    refine j_ldc2 (pc' := 14) hC dX6_hour_11 rfl ck_X6_171 ?_
    obtain ⟨r4, hc5, h⟩ := jb1_s h
    refine j_callSi [.long a2.toInt64, .long (0 : Int64), .long (4 : Int64)] (pc' := 17) hC dX6_hour_14 rfl (t_X6_in _ _ hc5) cs_X6_93 ⟨⟨Nat.le_of_ble_eq_true rfl, Nat.le_of_ble_eq_true rfl⟩, rfl, Nat.le_of_ble_eq_true rfl⟩ rfl rfl ?_
    refine j_if_ne (tgt := 22) (pc' := 20) hC dX6_hour_17 (by decide) rfl (fun c6 => ?_) (fun c6 => ?_)
    · have h := jit_f c6 h
      refine j_aload_n 0 (pc' := 23) hC dX6_hour_22 rfl rfl ?_
      refine j_iconst (v := 1) (pc' := 24) hC dX6_hour_23 rfl rfl ?_
      refine j_aload_n 0 (pc' := 25) hC dX6_hour_24 rfl rfl ?_
      refine j_iload_n 1 (pc' := 26) hC dX6_hour_25 rfl rfl ?_
      refine j_iload_n 2 (pc' := 27) hC dX6_hour_26 rfl rfl ?_
      obtain ⟨r7, hc8, h⟩ := jb1_s h
      refine j_callVi [.int a1, .int a2] (pc' := 30) hC dX6_hour_27 rfl (t_X6_hourOf _ _ hc8) gm0 vcl6 cv_X6_192 ⟨⟨Nat.le_of_ble_eq_true rfl, Nat.le_of_ble_eq_true rfl⟩, rfl, Nat.le_of_ble_eq_true rfl⟩ rfl rfl ?_
      obtain ⟨r9, M10, hc11, h⟩ := jb2_s h
      refine j_callVi [.int (1 : Int32), .int r7] (pc' := 33) hC dX6_hour_30 rfl (t_X6_answer _ _ hc11) gm0 vcl6 cv_X6_111 ⟨⟨Nat.le_of_ble_eq_true rfl, Nat.le_of_ble_eq_true rfl⟩, rfl, Nat.le_of_ble_eq_true rfl⟩ rfl rfl ?_
      obtain ⟨q0, q1⟩ := jinj2 h
      subst q0
      subst q1
      exact j_iret hC dX6_hour_33
    · have h := jit_t c6 h
      refine j_iconst (v := -1) (pc' := 21) hC dX6_hour_20 rfl rfl ?_
      obtain ⟨q0, q1⟩ := jinj2 h
      subst q0
      subst q1
      exact j_iret hC dX6_hour_21
theorem lp_X6_shelfOn_L4_b {Γ : jG} (hC : jOK Γ cX6_shelfOn 4 RX6 (some .int) { frames := 1, cells := 0, slots := 0, locals := 21 }) {Q : State → Prop} (rec : Int32 → Int32 → Int32 → jM → Option (Int32 × Int32)) (ih : ∀ (x1 : Int32) (x2 : Int32) (x3 : Int32) (M : jM) (e2 : Int32) (e3 : Int32), rec x1 x2 x3 M = some (e2, e3) → jJ Γ GM RM 57 [(0, .ref (jad Γ 0)), (1, .int x1), (2, .int e2), (3, .int e3)] [] M Q → jJ Γ GM RM 4 [(0, .ref (jad Γ 0)), (1, .int x1), (2, .int x2), (3, .int x3)] [] M Q) (x1 : Int32) (x2 : Int32) (x3 : Int32) (M : jM) (e2 : Int32) (e3 : Int32) (h : f_X6_shelfOn_L4_b rec x1 x2 x3 M = some (e2, e3)) (hK : jJ Γ GM RM 57 [(0, .ref (jad Γ 0)), (1, .int x1), (2, .int e2), (3, .int e3)] [] M Q) : jJ Γ GM RM 4 [(0, .ref (jad Γ 0)), (1, .int x1), (2, .int x2), (3, .int x3)] [] M Q := by
  unfold f_X6_shelfOn_L4_b at h
  refine j_iload_n 3 (pc' := 5) hC dX6_shelfOn_4 rfl rfl ?_
  refine j_aload_n 0 (pc' := 6) hC dX6_shelfOn_5 rfl rfl ?_
  refine j_geti' (pc' := 9) hC dX6_shelfOn_6 rfl fi_X6_159 gm0 ?_
  refine j_icmp_ge (tgt := 57) (pc' := 12) hC dX6_shelfOn_9 (by decide) rfl (fun c1 => ?_) (fun c1 => ?_)
  · have h := jit_t c1 h
    obtain ⟨q0, q1⟩ := jinj2 h
    subst q0
    subst q1
    refine j_sub [0, 1, 2, 3] rfl ?_
    exact hK
  · have h := jit_f c1 h
    refine j_iload_n 2 (pc' := 13) hC dX6_shelfOn_12 rfl rfl ?_
    refine j_aload_n 0 (pc' := 14) hC dX6_shelfOn_13 rfl rfl ?_
    refine j_iload_n 3 (pc' := 15) hC dX6_shelfOn_14 rfl rfl ?_
    obtain ⟨r2, hc3, h⟩ := jb1_s h
    refine j_callVi [.int x3] (pc' := 18) hC dX6_shelfOn_15 rfl (t_X6_comes _ _ hc3) gm0 vcl6 cv_X6_180 ⟨⟨Nat.le_of_ble_eq_true rfl, Nat.le_of_ble_eq_true rfl⟩, rfl, Nat.le_of_ble_eq_true rfl⟩ rfl rfl ?_
    refine j_iload_n 1 (pc' := 19) hC dX6_shelfOn_18 rfl rfl ?_
    obtain ⟨v8, hm10, h⟩ := jb1_s h
    have K9 : jJ Γ GM RM 49 [(0, .ref (jad Γ 0)), (1, .int x1), (2, .int x2), (3, .int x3)] [.int v8, .int x2] M Q := by
      refine j_ior (pc' := 50) hC dX6_shelfOn_49 rfl ?_
      obtain ⟨v15, ev15, h⟩ := jlet_s h
      refine j_istore_n (pc' := 51) hC dX6_shelfOn_50 rfl ev15 (by decide) rfl ?_
      obtain ⟨v16, ev16, h⟩ := jlet_s h
      refine j_iinc' 3 (c := 1) (pc' := 54) hC dX6_shelfOn_51 rfl rfl rfl ev16 (by decide) rfl ?_
      refine j_goto (tgt := 4) (pc' := 0) hC dX6_shelfOn_54 (by decide) ?_
      refine j_sub [2, 3, 1, 0] rfl ?_
      exact ih _ _ _ _ _ _ h hK
    refine j_icmp_gt (tgt := 48) (pc' := 22) hC dX6_shelfOn_19 (by decide) rfl (fun c11 => ?_) (fun c11 => ?_)
    · have hm10 := jit_t c11 hm10
      refine j_iconst (v := 0) (pc' := 49) hC dX6_shelfOn_48 rfl rfl ?_
      have q8 := jinj1 hm10
      subst q8
      exact j_sub [0, 1, 2, 3] rfl K9
    · have hm10 := jit_f c11 hm10
      refine j_aload_n 0 (pc' := 23) hC dX6_shelfOn_22 rfl rfl ?_
      refine j_getr' (o2 := 12) (pc' := 26) hC dX6_shelfOn_23 rfl fi_X6_43 gm0 rfl ?_
      refine j_iconst (v := 1) (pc' := 27) hC dX6_shelfOn_26 rfl rfl ?_
      refine j_iald (pc' := 28) hC dX6_shelfOn_27 rfl gm12 (by decide) ?_
      refine j_aload_n 0 (pc' := 29) hC dX6_shelfOn_28 rfl rfl ?_
      refine j_getr' (o2 := 12) (pc' := 32) hC dX6_shelfOn_29 rfl fi_X6_43 gm0 rfl ?_
      refine j_iconst (v := 2) (pc' := 33) hC dX6_shelfOn_32 rfl rfl ?_
      refine j_iald (pc' := 34) hC dX6_shelfOn_33 rfl gm12 (by decide) ?_
      refine j_ior (pc' := 35) hC dX6_shelfOn_34 rfl ?_
      refine j_iload_n 3 (pc' := 36) hC dX6_shelfOn_35 rfl rfl ?_
      obtain ⟨r12, hc13, hm10⟩ := jb1_s hm10
      refine j_callSi [.int ((gi M 12 (1 : Int32).toNatClampNeg) ||| (gi M 12 (2 : Int32).toNatClampNeg)), .int x3] (pc' := 39) hC dX6_shelfOn_36 rfl (t_X6_has _ _ hc13) cs_X6_136 ⟨⟨Nat.le_of_ble_eq_true rfl, Nat.le_of_ble_eq_true rfl⟩, rfl, Nat.le_of_ble_eq_true rfl⟩ rfl rfl ?_
      refine j_if_ne (tgt := 48) (pc' := 42) hC dX6_shelfOn_39 (by decide) rfl (fun c14 => ?_) (fun c14 => ?_)
      · have hm10 := jit_f c14 hm10
        refine j_iconst (v := 0) (pc' := 49) hC dX6_shelfOn_48 rfl rfl ?_
        have q8 := jinj1 hm10
        subst q8
        exact j_sub [0, 1, 2, 3] rfl K9
      · have hm10 := jit_t c14 hm10
        refine j_iconst (v := 1) (pc' := 43) hC dX6_shelfOn_42 rfl rfl ?_
        refine j_iload_n 3 (pc' := 44) hC dX6_shelfOn_43 rfl rfl ?_
        refine j_ishl (pc' := 45) hC dX6_shelfOn_44 rfl ?_
        refine j_goto (tgt := 49) (pc' := 0) hC dX6_shelfOn_45 (by decide) ?_
        have q8 := jinj1 hm10
        subst q8
        exact j_sub [0, 1, 2, 3] rfl K9
theorem lp_X6_shelfOn_L4 {Γ : jG} (hC : jOK Γ cX6_shelfOn 4 RX6 (some .int) { frames := 1, cells := 0, slots := 0, locals := 21 }) {Q : State → Prop} : ∀ (n : Nat) (x1 : Int32) (x2 : Int32) (x3 : Int32) (M : jM) (e2 : Int32) (e3 : Int32), f_X6_shelfOn_L4 n x1 x2 x3 M = some (e2, e3) → jJ Γ GM RM 57 [(0, .ref (jad Γ 0)), (1, .int x1), (2, .int e2), (3, .int e3)] [] M Q → jJ Γ GM RM 4 [(0, .ref (jad Γ 0)), (1, .int x1), (2, .int x2), (3, .int x3)] [] M Q := by
  intro n
  induction n with
  | zero =>
    intro x1 x2 x3 M e2 e3 h hK
    exact jno h
  | succ n ih =>
    intro x1 x2 x3 M e2 e3 h hK
    exact lp_X6_shelfOn_L4_b hC (f_X6_shelfOn_L4 n) ih x1 x2 x3 M e2 e3 h hK
theorem t_X6_shelfOn (l : Launch) (E : jE) {a1 : Int32} {M : jM} {r : Int32} (h : f_X6_shelfOn a1 M = some r) : jCi l yX6_shelfOn cX6_shelfOn 4 (some .int) 1 21 E RM GM (fun a _ => [.ref (a 0), .int a1]) M r M := by
  refine jCi_of (own := RX6) (by decide) rfl (fun _ _ => Nat.le_of_ble_eq_true rfl) ?_
  intro Γ hC
  show jJ Γ GM RM 0 [(0, .ref (jad Γ 0)), (1, .int a1)] [] M (jQi Γ RM GM r M)
  unfold f_X6_shelfOn at h
  refine j_iconst (v := 0) (pc' := 1) hC dX6_shelfOn_0 rfl rfl ?_
  refine j_istore_n (pc' := 2) hC dX6_shelfOn_1 rfl rfl (by decide) rfl ?_
  refine j_iconst (v := 0) (pc' := 3) hC dX6_shelfOn_2 rfl rfl ?_
  refine j_istore_n (pc' := 4) hC dX6_shelfOn_3 rfl rfl (by decide) rfl ?_
  refine j_sub [2, 3, 1, 0] rfl ?_
  obtain ⟨v1, v2, hm3, h⟩ := jb2_s h
  refine lp_X6_shelfOn_L4 hC  jfu a1 (0 : Int32) (0 : Int32) M v1 v2 hm3 ?_
  refine j_iload_n 2 (pc' := 58) hC dX6_shelfOn_57 rfl rfl ?_
  have q8 := jinj1 h
  subst q8
  exact j_iret hC dX6_shelfOn_58
theorem t_X6_isLight (l : Launch) (E : jE) {a1 : Int32} {a2 : Int32} {M : jM} {r : Int32} (h : f_X6_isLight a1 a2 M = some r) : jCi l yX6_isLight cX6_isLight 3 (some .boolean) 2 46 E RM GM (fun a _ => [.ref (a 0), .int a1, .int a2]) M r M := by
  refine jCi_of (own := RX6) (by decide) rfl (fun _ _ => Nat.le_of_ble_eq_true rfl) ?_
  intro Γ hC
  show jJ Γ GM RM 0 [(0, .ref (jad Γ 0)), (1, .int a1), (2, .int a2)] [] M (jQi Γ RM GM r M)
  unfold f_X6_isLight at h
  refine j_aload_n 0 (pc' := 1) hC dX6_isLight_0 rfl rfl ?_
  refine j_getr' (o2 := 6) (pc' := 4) hC dX6_isLight_1 rfl fi_X6_25 gm0 rfl ?_
  refine j_iload_n 1 (pc' := 5) hC dX6_isLight_4 rfl rfl ?_
  obtain ⟨g1, h⟩ := jg_s h
  refine j_iald (pc' := 6) hC dX6_isLight_5 rfl gm6 g1 ?_
  refine j_iconst (v := 2) (pc' := 7) hC dX6_isLight_6 rfl rfl ?_
  refine j_icmp_eq (tgt := 33) (pc' := 10) hC dX6_isLight_7 (by decide) rfl (fun c2 => ?_) (fun c2 => ?_)
  · have h := jit_t c2 h
    refine j_iconst (v := 1) (pc' := 34) hC dX6_isLight_33 rfl rfl ?_
    refine j_goto (tgt := 38) (pc' := 0) hC dX6_isLight_34 (by decide) ?_
    have q8 := jinj1 h
    subst q8
    exact j_zret hC dX6_isLight_38 (by decide)
  · have h := jit_f c2 h
    refine j_aload_n 0 (pc' := 11) hC dX6_isLight_10 rfl rfl ?_
    refine j_iload_n 2 (pc' := 12) hC dX6_isLight_11 rfl rfl ?_
    obtain ⟨r3, hc4, h⟩ := jb1_s h
    refine j_callVi [.int a2] (pc' := 15) hC dX6_isLight_12 rfl (t_X6_isNight _ _ hc4) gm0 vcl6 cv_X6_183 ⟨⟨Nat.le_of_ble_eq_true rfl, Nat.le_of_ble_eq_true rfl⟩, rfl, Nat.le_of_ble_eq_true rfl⟩ rfl rfl ?_
    refine j_aload_n 0 (pc' := 16) hC dX6_isLight_15 rfl rfl ?_
    refine j_getr' (o2 := 6) (pc' := 19) hC dX6_isLight_16 rfl fi_X6_25 gm0 rfl ?_
    refine j_iload_n 1 (pc' := 20) hC dX6_isLight_19 rfl rfl ?_
    obtain ⟨g5, h⟩ := jg_s h
    refine j_iald (pc' := 21) hC dX6_isLight_20 rfl gm6 g5 ?_
    refine j_iconst (v := 1) (pc' := 22) hC dX6_isLight_21 rfl rfl ?_
    obtain ⟨v7, hm9, h⟩ := jlet_s h
    have K8 : jJ Γ GM RM 30 [(0, .ref (jad Γ 0)), (1, .int a1), (2, .int a2)] [.int v7, .int r3] M (jQi Γ RM GM r M) := by
      refine j_icmp_ne (tgt := 37) (pc' := 33) hC dX6_isLight_30 (by decide) rfl (fun c11 => ?_) (fun c11 => ?_)
      · have h := jit_f c11 h
        refine j_iconst (v := 0) (pc' := 38) hC dX6_isLight_37 rfl rfl ?_
        have q8 := jinj1 h
        subst q8
        exact j_zret hC dX6_isLight_38 (by decide)
      · have h := jit_t c11 h
        refine j_iconst (v := 1) (pc' := 34) hC dX6_isLight_33 rfl rfl ?_
        refine j_goto (tgt := 38) (pc' := 0) hC dX6_isLight_34 (by decide) ?_
        have q8 := jinj1 h
        subst q8
        exact j_zret hC dX6_isLight_38 (by decide)
    refine j_icmp_ne (tgt := 29) (pc' := 25) hC dX6_isLight_22 (by decide) rfl (fun c10 => ?_) (fun c10 => ?_)
    · have hm9 := jit_f c10 hm9
      refine j_iconst (v := 0) (pc' := 30) hC dX6_isLight_29 rfl rfl ?_
      subst hm9
      exact j_sub [0, 1, 2] rfl K8
    · have hm9 := jit_t c10 hm9
      refine j_iconst (v := 1) (pc' := 26) hC dX6_isLight_25 rfl rfl ?_
      refine j_goto (tgt := 30) (pc' := 0) hC dX6_isLight_26 (by decide) ?_
      subst hm9
      exact j_sub [0, 1, 2] rfl K8
theorem t_X6_isKind (l : Launch) (E : jE) {a1 : Int32} {a2 : Int32} {M : jM} {r : Int32} (h : f_X6_isKind a1 a2 M = some r) : jCi l yX6_isKind cX6_isKind 2 (some .boolean) 0 0 E RM GM (fun _ _ => [.int a1, .int a2]) M r M := by
  refine jCi_of (own := RX6) (by decide) rfl (fun _ _ => Nat.le_of_ble_eq_true rfl) ?_
  intro Γ hC
  show jJ Γ GM RM 0 [(0, .int a1), (1, .int a2)] [] M (jQi Γ RM GM r M)
  unfold f_X6_isKind at h
  refine j_iload_n 0 (pc' := 1) hC dX6_isKind_0 rfl rfl ?_
  refine j_iload_n 1 (pc' := 2) hC dX6_isKind_1 rfl rfl ?_
  refine j_icmp_eq (tgt := 25) (pc' := 5) hC dX6_isKind_2 (by decide) rfl (fun c1 => ?_) (fun c1 => ?_)
  · have h := jit_t c1 h
    refine j_iconst (v := 1) (pc' := 26) hC dX6_isKind_25 rfl rfl ?_
    refine j_goto (tgt := 30) (pc' := 0) hC dX6_isKind_26 (by decide) ?_
    have q8 := jinj1 h
    subst q8
    exact j_zret hC dX6_isKind_30 (by decide)
  · have h := jit_f c1 h
    refine j_iload_n 0 (pc' := 6) hC dX6_isKind_5 rfl rfl ?_
    refine j_iconst (v := 4) (pc' := 7) hC dX6_isKind_6 rfl rfl ?_
    refine j_icmp_ne (tgt := 15) (pc' := 10) hC dX6_isKind_7 (by decide) rfl (fun c2 => ?_) (fun c2 => ?_)
    · have h := jit_f c2 h
      refine j_iload_n 0 (pc' := 16) hC dX6_isKind_15 rfl rfl ?_
      refine j_iconst (v := 5) (pc' := 17) hC dX6_isKind_16 rfl rfl ?_
      refine j_icmp_ne (tgt := 29) (pc' := 20) hC dX6_isKind_17 (by decide) rfl (fun c3 => ?_) (fun c3 => ?_)
      · have h := jit_f c3 h
        refine j_iconst (v := 0) (pc' := 30) hC dX6_isKind_29 rfl rfl ?_
        have q8 := jinj1 h
        subst q8
        exact j_zret hC dX6_isKind_30 (by decide)
      · have h := jit_t c3 h
        refine j_iload_n 1 (pc' := 21) hC dX6_isKind_20 rfl rfl ?_
        refine j_iconst (v := 2) (pc' := 22) hC dX6_isKind_21 rfl rfl ?_
        refine j_icmp_ne (tgt := 29) (pc' := 25) hC dX6_isKind_22 (by decide) rfl (fun c4 => ?_) (fun c4 => ?_)
        · have h := jit_f c4 h
          refine j_iconst (v := 0) (pc' := 30) hC dX6_isKind_29 rfl rfl ?_
          have q8 := jinj1 h
          subst q8
          exact j_zret hC dX6_isKind_30 (by decide)
        · have h := jit_t c4 h
          refine j_iconst (v := 1) (pc' := 26) hC dX6_isKind_25 rfl rfl ?_
          refine j_goto (tgt := 30) (pc' := 0) hC dX6_isKind_26 (by decide) ?_
          have q8 := jinj1 h
          subst q8
          exact j_zret hC dX6_isKind_30 (by decide)
    · have h := jit_t c2 h
      refine j_iload_n 1 (pc' := 11) hC dX6_isKind_10 rfl rfl ?_
      refine j_iconst (v := 1) (pc' := 12) hC dX6_isKind_11 rfl rfl ?_
      refine j_icmp_eq (tgt := 25) (pc' := 15) hC dX6_isKind_12 (by decide) rfl (fun c5 => ?_) (fun c5 => ?_)
      · have h := jit_t c5 h
        refine j_iconst (v := 1) (pc' := 26) hC dX6_isKind_25 rfl rfl ?_
        refine j_goto (tgt := 30) (pc' := 0) hC dX6_isKind_26 (by decide) ?_
        have q8 := jinj1 h
        subst q8
        exact j_zret hC dX6_isKind_30 (by decide)
      · have h := jit_f c5 h
        refine j_iload_n 0 (pc' := 16) hC dX6_isKind_15 rfl rfl ?_
        refine j_iconst (v := 5) (pc' := 17) hC dX6_isKind_16 rfl rfl ?_
        refine j_icmp_ne (tgt := 29) (pc' := 20) hC dX6_isKind_17 (by decide) rfl (fun c6 => ?_) (fun c6 => ?_)
        · have h := jit_f c6 h
          refine j_iconst (v := 0) (pc' := 30) hC dX6_isKind_29 rfl rfl ?_
          have q8 := jinj1 h
          subst q8
          exact j_zret hC dX6_isKind_30 (by decide)
        · have h := jit_t c6 h
          refine j_iload_n 1 (pc' := 21) hC dX6_isKind_20 rfl rfl ?_
          refine j_iconst (v := 2) (pc' := 22) hC dX6_isKind_21 rfl rfl ?_
          refine j_icmp_ne (tgt := 29) (pc' := 25) hC dX6_isKind_22 (by decide) rfl (fun c7 => ?_) (fun c7 => ?_)
          · have h := jit_f c7 h
            refine j_iconst (v := 0) (pc' := 30) hC dX6_isKind_29 rfl rfl ?_
            have q8 := jinj1 h
            subst q8
            exact j_zret hC dX6_isKind_30 (by decide)
          · have h := jit_t c7 h
            refine j_iconst (v := 1) (pc' := 26) hC dX6_isKind_25 rfl rfl ?_
            refine j_goto (tgt := 30) (pc' := 0) hC dX6_isKind_26 (by decide) ?_
            have q8 := jinj1 h
            subst q8
            exact j_zret hC dX6_isKind_30 (by decide)
theorem lp_X6_ones_L4_b {Γ : jG} (hC : jOK Γ cX6_ones 3 RX6 (some .int) { frames := 0, cells := 0, slots := 0, locals := 0 }) {Q : State → Prop} (x0 : Int32) (rec : Int32 → Int32 → jM → Option (Int32 × Int32)) (ih : ∀ (x1 : Int32) (x2 : Int32) (M : jM) (e1 : Int32) (e2 : Int32), rec x1 x2 M = some (e1, e2) → jJ Γ GM RM 20 [(0, .int x0), (1, .int e1), (2, .int e2)] [] M Q → jJ Γ GM RM 4 [(0, .int x0), (1, .int x1), (2, .int x2)] [] M Q) (x1 : Int32) (x2 : Int32) (M : jM) (e1 : Int32) (e2 : Int32) (h : f_X6_ones_L4_b rec x1 x2 M = some (e1, e2)) (hK : jJ Γ GM RM 20 [(0, .int x0), (1, .int e1), (2, .int e2)] [] M Q) : jJ Γ GM RM 4 [(0, .int x0), (1, .int x1), (2, .int x2)] [] M Q := by
  unfold f_X6_ones_L4_b at h
  refine j_iload_n 2 (pc' := 5) hC dX6_ones_4 rfl rfl ?_
  refine j_if_eq (tgt := 20) (pc' := 8) hC dX6_ones_5 (by decide) rfl (fun c1 => ?_) (fun c1 => ?_)
  · have h := jit_t c1 h
    obtain ⟨q0, q1⟩ := jinj2 h
    subst q0
    subst q1
    refine j_sub [0, 1, 2] rfl ?_
    exact hK
  · have h := jit_f c1 h
    obtain ⟨v2, ev2, h⟩ := jlet_s h
    refine j_iinc' 1 (c := 1) (pc' := 11) hC dX6_ones_8 rfl rfl rfl ev2 (by decide) rfl ?_
    refine j_iload_n 2 (pc' := 12) hC dX6_ones_11 rfl rfl ?_
    refine j_iload_n 2 (pc' := 13) hC dX6_ones_12 rfl rfl ?_
    refine j_iconst (v := 1) (pc' := 14) hC dX6_ones_13 rfl rfl ?_
    refine j_isub (pc' := 15) hC dX6_ones_14 rfl ?_
    refine j_iand (pc' := 16) hC dX6_ones_15 rfl ?_
    obtain ⟨v3, ev3, h⟩ := jlet_s h
    refine j_istore_n (pc' := 17) hC dX6_ones_16 rfl ev3 (by decide) rfl ?_
    refine j_goto (tgt := 4) (pc' := 0) hC dX6_ones_17 (by decide) ?_
    refine j_sub [2, 1, 0] rfl ?_
    exact ih _ _ _ _ _ h hK
theorem lp_X6_ones_L4 {Γ : jG} (hC : jOK Γ cX6_ones 3 RX6 (some .int) { frames := 0, cells := 0, slots := 0, locals := 0 }) {Q : State → Prop} (x0 : Int32) : ∀ (n : Nat) (x1 : Int32) (x2 : Int32) (M : jM) (e1 : Int32) (e2 : Int32), f_X6_ones_L4 n x1 x2 M = some (e1, e2) → jJ Γ GM RM 20 [(0, .int x0), (1, .int e1), (2, .int e2)] [] M Q → jJ Γ GM RM 4 [(0, .int x0), (1, .int x1), (2, .int x2)] [] M Q := by
  intro n
  induction n with
  | zero =>
    intro x1 x2 M e1 e2 h hK
    exact jno h
  | succ n ih =>
    intro x1 x2 M e1 e2 h hK
    exact lp_X6_ones_L4_b hC x0 (f_X6_ones_L4 n) ih x1 x2 M e1 e2 h hK
theorem t_X6_ones (l : Launch) (E : jE) {a1 : Int32} {M : jM} {r : Int32} (h : f_X6_ones a1 M = some r) : jCi l yX6_ones cX6_ones 3 (some .int) 0 0 E RM GM (fun _ _ => [.int a1]) M r M := by
  refine jCi_of (own := RX6) (by decide) rfl (fun _ _ => Nat.le_of_ble_eq_true rfl) ?_
  intro Γ hC
  show jJ Γ GM RM 0 [(0, .int a1)] [] M (jQi Γ RM GM r M)
  unfold f_X6_ones at h
  refine j_iconst (v := 0) (pc' := 1) hC dX6_ones_0 rfl rfl ?_
  refine j_istore_n (pc' := 2) hC dX6_ones_1 rfl rfl (by decide) rfl ?_
  refine j_iload_n 1 (pc' := 3) hC dX6_ones_2 rfl rfl ?_
  refine j_istore_n (pc' := 4) hC dX6_ones_3 rfl rfl (by decide) rfl ?_
  refine j_sub [2, 1, 0] rfl ?_
  obtain ⟨v1, v2, hm3, h⟩ := jb2_s h
  refine lp_X6_ones_L4 hC a1 jfu (0 : Int32) a1 M v1 v2 hm3 ?_
  refine j_iload_n 1 (pc' := 21) hC dX6_ones_20 rfl rfl ?_
  have q8 := jinj1 h
  subst q8
  exact j_iret hC dX6_ones_21
theorem t_X6_isAsKind (l : Launch) (E : jE) {a1 : Int32} {a2 : Int32} {a3 : Int32} {a4 : Int32} {M : jM} {r : Int32} (h : f_X6_isAsKind a1 a2 a3 a4 M = some r) : jCi l yX6_isAsKind cX6_isAsKind 6 (some .boolean) 1 25 E RM GM (fun a _ => [.ref (a 0), .int a1, .int a2, .int a3, .int a4]) M r M := by
  refine jCi_of (own := RX6) (by decide) rfl (fun _ _ => Nat.le_of_ble_eq_true rfl) ?_
  intro Γ hC
  show jJ Γ GM RM 0 [(0, .ref (jad Γ 0)), (1, .int a1), (2, .int a2), (3, .int a3), (4, .int a4)] [] M (jQi Γ RM GM r M)
  unfold f_X6_isAsKind at h
  refine j_aload_n 0 (pc' := 1) hC dX6_isAsKind_0 rfl rfl ?_
  refine j_getr' (o2 := 5) (pc' := 4) hC dX6_isAsKind_1 rfl fi_X6_22 gm0 rfl ?_
  refine j_iload_n 1 (pc' := 5) hC dX6_isAsKind_4 rfl rfl ?_
  obtain ⟨g1, h⟩ := jg_s h
  refine j_iald (pc' := 6) hC dX6_isAsKind_5 rfl gm5 g1 ?_
  obtain ⟨v2, ev2, h⟩ := jlet_s h
  refine j_istore (pc' := 8) hC dX6_isAsKind_6 rfl ev2 (by decide) rfl ?_
  refine j_iload 0 (pc' := 10) hC dX6_isAsKind_8 rfl rfl ?_
  refine j_iconst (v := 1) (pc' := 11) hC dX6_isAsKind_10 rfl rfl ?_
  obtain ⟨r3, hc4, h⟩ := jb1_s h
  refine j_callSi [.int v2, .int (1 : Int32)] (pc' := 14) hC dX6_isAsKind_11 rfl (t_X6_isKind _ _ hc4) cs_X6_195 ⟨⟨Nat.le_of_ble_eq_true rfl, Nat.le_of_ble_eq_true rfl⟩, rfl, Nat.le_of_ble_eq_true rfl⟩ rfl rfl ?_
  refine j_if_eq (tgt := 25) (pc' := 17) hC dX6_isAsKind_14 (by decide) rfl (fun c5 => ?_) (fun c5 => ?_)
  · have h := jit_t c5 h
    refine j_iload 0 (pc' := 27) hC dX6_isAsKind_25 rfl rfl ?_
    refine j_iconst (v := 2) (pc' := 28) hC dX6_isAsKind_27 rfl rfl ?_
    refine j_icmp_ne (tgt := 52) (pc' := 31) hC dX6_isAsKind_28 (by decide) rfl (fun c6 => ?_) (fun c6 => ?_)
    · have h := jit_f c6 h
      refine j_iload 0 (pc' := 54) hC dX6_isAsKind_52 rfl rfl ?_
      refine j_iconst (v := 4) (pc' := 55) hC dX6_isAsKind_54 rfl rfl ?_
      refine j_icmp_ne (tgt := 75) (pc' := 58) hC dX6_isAsKind_55 (by decide) rfl (fun c7 => ?_) (fun c7 => ?_)
      · have h := jit_f c7 h
        refine j_iconst (v := 1) (pc' := 76) hC dX6_isAsKind_75 rfl rfl ?_
        refine j_goto (tgt := 80) (pc' := 0) hC dX6_isAsKind_76 (by decide) ?_
        have q8 := jinj1 h
        subst q8
        exact j_zret hC dX6_isAsKind_80 (by decide)
      · have h := jit_t c7 h
        refine j_iload_n 4 (pc' := 59) hC dX6_isAsKind_58 rfl rfl ?_
        refine j_aload_n 1 (pc' := 60) hC dX6_isAsKind_59 rfl rfl ?_
        refine j_getr' (o2 := 7) (pc' := 63) hC dX6_isAsKind_60 rfl fi_X6_28 gm0 rfl ?_
        refine j_iload_n 2 (pc' := 64) hC dX6_isAsKind_63 rfl rfl ?_
        obtain ⟨g8, h⟩ := jg_s h
        refine j_iald (pc' := 65) hC dX6_isAsKind_64 rfl gm7 g8 ?_
        refine j_iconst (v := -1) (pc' := 66) hC dX6_isAsKind_65 rfl rfl ?_
        refine j_ixor (pc' := 67) hC dX6_isAsKind_66 rfl ?_
        refine j_iand (pc' := 68) hC dX6_isAsKind_67 rfl ?_
        obtain ⟨r9, hc10, h⟩ := jb1_s h
        refine j_callSi [.int (a3 &&& ((gi M 7 a1.toNatClampNeg) ^^^ (-1 : Int32)))] (pc' := 71) hC dX6_isAsKind_68 rfl (t_X6_ones _ _ hc10) cs_X6_200 ⟨⟨Nat.le_of_ble_eq_true rfl, Nat.le_of_ble_eq_true rfl⟩, rfl, Nat.le_of_ble_eq_true rfl⟩ rfl rfl ?_
        refine j_iconst (v := 2) (pc' := 72) hC dX6_isAsKind_71 rfl rfl ?_
        refine j_icmp_lt (tgt := 79) (pc' := 75) hC dX6_isAsKind_72 (by decide) rfl (fun c11 => ?_) (fun c11 => ?_)
        · have h := jit_t c11 h
          refine j_iconst (v := 0) (pc' := 80) hC dX6_isAsKind_79 rfl rfl ?_
          have q8 := jinj1 h
          subst q8
          exact j_zret hC dX6_isAsKind_80 (by decide)
        · have h := jit_f c11 h
          refine j_iconst (v := 1) (pc' := 76) hC dX6_isAsKind_75 rfl rfl ?_
          refine j_goto (tgt := 80) (pc' := 0) hC dX6_isAsKind_76 (by decide) ?_
          have q8 := jinj1 h
          subst q8
          exact j_zret hC dX6_isAsKind_80 (by decide)
    · have h := jit_t c6 h
      refine j_aload_n 1 (pc' := 32) hC dX6_isAsKind_31 rfl rfl ?_
      refine j_getr' (o2 := 8) (pc' := 35) hC dX6_isAsKind_32 rfl fi_X6_31 gm0 rfl ?_
      refine j_iload_n 3 (pc' := 36) hC dX6_isAsKind_35 rfl rfl ?_
      obtain ⟨g12, h⟩ := jg_s h
      refine j_iald (pc' := 37) hC dX6_isAsKind_36 rfl gm8 g12 ?_
      refine j_i2l (pc' := 38) hC dX6_isAsKind_37 rfl ?_
      refine j_ldc2 (pc' := 41) hC dX6_isAsKind_38 rfl ck_X6_176 ?_
      refine j_ldc2 (pc' := 44) hC dX6_isAsKind_41 rfl ck_X6_198 ?_
      obtain ⟨r13, hc14, h⟩ := jb1_s h
      refine j_callSi [.long (gi M 8 a2.toNatClampNeg).toInt64, .long (6 : Int64), .long (19 : Int64)] (pc' := 47) hC dX6_isAsKind_44 rfl (t_X6_in _ _ hc14) cs_X6_93 ⟨⟨Nat.le_of_ble_eq_true rfl, Nat.le_of_ble_eq_true rfl⟩, rfl, Nat.le_of_ble_eq_true rfl⟩ rfl rfl ?_
      refine j_if_eq (tgt := 52) (pc' := 50) hC dX6_isAsKind_47 (by decide) rfl (fun c15 => ?_) (fun c15 => ?_)
      · have h := jit_t c15 h
        refine j_iload 0 (pc' := 54) hC dX6_isAsKind_52 rfl rfl ?_
        refine j_iconst (v := 4) (pc' := 55) hC dX6_isAsKind_54 rfl rfl ?_
        refine j_icmp_ne (tgt := 75) (pc' := 58) hC dX6_isAsKind_55 (by decide) rfl (fun c16 => ?_) (fun c16 => ?_)
        · have h := jit_f c16 h
          refine j_iconst (v := 1) (pc' := 76) hC dX6_isAsKind_75 rfl rfl ?_
          refine j_goto (tgt := 80) (pc' := 0) hC dX6_isAsKind_76 (by decide) ?_
          have q8 := jinj1 h
          subst q8
          exact j_zret hC dX6_isAsKind_80 (by decide)
        · have h := jit_t c16 h
          refine j_iload_n 4 (pc' := 59) hC dX6_isAsKind_58 rfl rfl ?_
          refine j_aload_n 1 (pc' := 60) hC dX6_isAsKind_59 rfl rfl ?_
          refine j_getr' (o2 := 7) (pc' := 63) hC dX6_isAsKind_60 rfl fi_X6_28 gm0 rfl ?_
          refine j_iload_n 2 (pc' := 64) hC dX6_isAsKind_63 rfl rfl ?_
          obtain ⟨g17, h⟩ := jg_s h
          refine j_iald (pc' := 65) hC dX6_isAsKind_64 rfl gm7 g17 ?_
          refine j_iconst (v := -1) (pc' := 66) hC dX6_isAsKind_65 rfl rfl ?_
          refine j_ixor (pc' := 67) hC dX6_isAsKind_66 rfl ?_
          refine j_iand (pc' := 68) hC dX6_isAsKind_67 rfl ?_
          obtain ⟨r18, hc19, h⟩ := jb1_s h
          refine j_callSi [.int (a3 &&& ((gi M 7 a1.toNatClampNeg) ^^^ (-1 : Int32)))] (pc' := 71) hC dX6_isAsKind_68 rfl (t_X6_ones _ _ hc19) cs_X6_200 ⟨⟨Nat.le_of_ble_eq_true rfl, Nat.le_of_ble_eq_true rfl⟩, rfl, Nat.le_of_ble_eq_true rfl⟩ rfl rfl ?_
          refine j_iconst (v := 2) (pc' := 72) hC dX6_isAsKind_71 rfl rfl ?_
          refine j_icmp_lt (tgt := 79) (pc' := 75) hC dX6_isAsKind_72 (by decide) rfl (fun c20 => ?_) (fun c20 => ?_)
          · have h := jit_t c20 h
            refine j_iconst (v := 0) (pc' := 80) hC dX6_isAsKind_79 rfl rfl ?_
            have q8 := jinj1 h
            subst q8
            exact j_zret hC dX6_isAsKind_80 (by decide)
          · have h := jit_f c20 h
            refine j_iconst (v := 1) (pc' := 76) hC dX6_isAsKind_75 rfl rfl ?_
            refine j_goto (tgt := 80) (pc' := 0) hC dX6_isAsKind_76 (by decide) ?_
            have q8 := jinj1 h
            subst q8
            exact j_zret hC dX6_isAsKind_80 (by decide)
      · have h := jit_f c15 h
        refine j_iconst (v := 0) (pc' := 51) hC dX6_isAsKind_50 rfl rfl ?_
        have q8 := jinj1 h
        subst q8
        exact j_zret hC dX6_isAsKind_51 (by decide)
  · have h := jit_f c5 h
    refine j_iload 5 (pc' := 19) hC dX6_isAsKind_17 rfl rfl ?_
    refine j_iconst (v := 2) (pc' := 20) hC dX6_isAsKind_19 rfl rfl ?_
    refine j_icmp_ge (tgt := 25) (pc' := 23) hC dX6_isAsKind_20 (by decide) rfl (fun c21 => ?_) (fun c21 => ?_)
    · have h := jit_t c21 h
      refine j_iload 0 (pc' := 27) hC dX6_isAsKind_25 rfl rfl ?_
      refine j_iconst (v := 2) (pc' := 28) hC dX6_isAsKind_27 rfl rfl ?_
      refine j_icmp_ne (tgt := 52) (pc' := 31) hC dX6_isAsKind_28 (by decide) rfl (fun c22 => ?_) (fun c22 => ?_)
      · have h := jit_f c22 h
        refine j_iload 0 (pc' := 54) hC dX6_isAsKind_52 rfl rfl ?_
        refine j_iconst (v := 4) (pc' := 55) hC dX6_isAsKind_54 rfl rfl ?_
        refine j_icmp_ne (tgt := 75) (pc' := 58) hC dX6_isAsKind_55 (by decide) rfl (fun c23 => ?_) (fun c23 => ?_)
        · have h := jit_f c23 h
          refine j_iconst (v := 1) (pc' := 76) hC dX6_isAsKind_75 rfl rfl ?_
          refine j_goto (tgt := 80) (pc' := 0) hC dX6_isAsKind_76 (by decide) ?_
          have q8 := jinj1 h
          subst q8
          exact j_zret hC dX6_isAsKind_80 (by decide)
        · have h := jit_t c23 h
          refine j_iload_n 4 (pc' := 59) hC dX6_isAsKind_58 rfl rfl ?_
          refine j_aload_n 1 (pc' := 60) hC dX6_isAsKind_59 rfl rfl ?_
          refine j_getr' (o2 := 7) (pc' := 63) hC dX6_isAsKind_60 rfl fi_X6_28 gm0 rfl ?_
          refine j_iload_n 2 (pc' := 64) hC dX6_isAsKind_63 rfl rfl ?_
          obtain ⟨g24, h⟩ := jg_s h
          refine j_iald (pc' := 65) hC dX6_isAsKind_64 rfl gm7 g24 ?_
          refine j_iconst (v := -1) (pc' := 66) hC dX6_isAsKind_65 rfl rfl ?_
          refine j_ixor (pc' := 67) hC dX6_isAsKind_66 rfl ?_
          refine j_iand (pc' := 68) hC dX6_isAsKind_67 rfl ?_
          obtain ⟨r25, hc26, h⟩ := jb1_s h
          refine j_callSi [.int (a3 &&& ((gi M 7 a1.toNatClampNeg) ^^^ (-1 : Int32)))] (pc' := 71) hC dX6_isAsKind_68 rfl (t_X6_ones _ _ hc26) cs_X6_200 ⟨⟨Nat.le_of_ble_eq_true rfl, Nat.le_of_ble_eq_true rfl⟩, rfl, Nat.le_of_ble_eq_true rfl⟩ rfl rfl ?_
          refine j_iconst (v := 2) (pc' := 72) hC dX6_isAsKind_71 rfl rfl ?_
          refine j_icmp_lt (tgt := 79) (pc' := 75) hC dX6_isAsKind_72 (by decide) rfl (fun c27 => ?_) (fun c27 => ?_)
          · have h := jit_t c27 h
            refine j_iconst (v := 0) (pc' := 80) hC dX6_isAsKind_79 rfl rfl ?_
            have q8 := jinj1 h
            subst q8
            exact j_zret hC dX6_isAsKind_80 (by decide)
          · have h := jit_f c27 h
            refine j_iconst (v := 1) (pc' := 76) hC dX6_isAsKind_75 rfl rfl ?_
            refine j_goto (tgt := 80) (pc' := 0) hC dX6_isAsKind_76 (by decide) ?_
            have q8 := jinj1 h
            subst q8
            exact j_zret hC dX6_isAsKind_80 (by decide)
      · have h := jit_t c22 h
        refine j_aload_n 1 (pc' := 32) hC dX6_isAsKind_31 rfl rfl ?_
        refine j_getr' (o2 := 8) (pc' := 35) hC dX6_isAsKind_32 rfl fi_X6_31 gm0 rfl ?_
        refine j_iload_n 3 (pc' := 36) hC dX6_isAsKind_35 rfl rfl ?_
        obtain ⟨g28, h⟩ := jg_s h
        refine j_iald (pc' := 37) hC dX6_isAsKind_36 rfl gm8 g28 ?_
        refine j_i2l (pc' := 38) hC dX6_isAsKind_37 rfl ?_
        refine j_ldc2 (pc' := 41) hC dX6_isAsKind_38 rfl ck_X6_176 ?_
        refine j_ldc2 (pc' := 44) hC dX6_isAsKind_41 rfl ck_X6_198 ?_
        obtain ⟨r29, hc30, h⟩ := jb1_s h
        refine j_callSi [.long (gi M 8 a2.toNatClampNeg).toInt64, .long (6 : Int64), .long (19 : Int64)] (pc' := 47) hC dX6_isAsKind_44 rfl (t_X6_in _ _ hc30) cs_X6_93 ⟨⟨Nat.le_of_ble_eq_true rfl, Nat.le_of_ble_eq_true rfl⟩, rfl, Nat.le_of_ble_eq_true rfl⟩ rfl rfl ?_
        refine j_if_eq (tgt := 52) (pc' := 50) hC dX6_isAsKind_47 (by decide) rfl (fun c31 => ?_) (fun c31 => ?_)
        · have h := jit_t c31 h
          refine j_iload 0 (pc' := 54) hC dX6_isAsKind_52 rfl rfl ?_
          refine j_iconst (v := 4) (pc' := 55) hC dX6_isAsKind_54 rfl rfl ?_
          refine j_icmp_ne (tgt := 75) (pc' := 58) hC dX6_isAsKind_55 (by decide) rfl (fun c32 => ?_) (fun c32 => ?_)
          · have h := jit_f c32 h
            refine j_iconst (v := 1) (pc' := 76) hC dX6_isAsKind_75 rfl rfl ?_
            refine j_goto (tgt := 80) (pc' := 0) hC dX6_isAsKind_76 (by decide) ?_
            have q8 := jinj1 h
            subst q8
            exact j_zret hC dX6_isAsKind_80 (by decide)
          · have h := jit_t c32 h
            refine j_iload_n 4 (pc' := 59) hC dX6_isAsKind_58 rfl rfl ?_
            refine j_aload_n 1 (pc' := 60) hC dX6_isAsKind_59 rfl rfl ?_
            refine j_getr' (o2 := 7) (pc' := 63) hC dX6_isAsKind_60 rfl fi_X6_28 gm0 rfl ?_
            refine j_iload_n 2 (pc' := 64) hC dX6_isAsKind_63 rfl rfl ?_
            obtain ⟨g33, h⟩ := jg_s h
            refine j_iald (pc' := 65) hC dX6_isAsKind_64 rfl gm7 g33 ?_
            refine j_iconst (v := -1) (pc' := 66) hC dX6_isAsKind_65 rfl rfl ?_
            refine j_ixor (pc' := 67) hC dX6_isAsKind_66 rfl ?_
            refine j_iand (pc' := 68) hC dX6_isAsKind_67 rfl ?_
            obtain ⟨r34, hc35, h⟩ := jb1_s h
            refine j_callSi [.int (a3 &&& ((gi M 7 a1.toNatClampNeg) ^^^ (-1 : Int32)))] (pc' := 71) hC dX6_isAsKind_68 rfl (t_X6_ones _ _ hc35) cs_X6_200 ⟨⟨Nat.le_of_ble_eq_true rfl, Nat.le_of_ble_eq_true rfl⟩, rfl, Nat.le_of_ble_eq_true rfl⟩ rfl rfl ?_
            refine j_iconst (v := 2) (pc' := 72) hC dX6_isAsKind_71 rfl rfl ?_
            refine j_icmp_lt (tgt := 79) (pc' := 75) hC dX6_isAsKind_72 (by decide) rfl (fun c36 => ?_) (fun c36 => ?_)
            · have h := jit_t c36 h
              refine j_iconst (v := 0) (pc' := 80) hC dX6_isAsKind_79 rfl rfl ?_
              have q8 := jinj1 h
              subst q8
              exact j_zret hC dX6_isAsKind_80 (by decide)
            · have h := jit_f c36 h
              refine j_iconst (v := 1) (pc' := 76) hC dX6_isAsKind_75 rfl rfl ?_
              refine j_goto (tgt := 80) (pc' := 0) hC dX6_isAsKind_76 (by decide) ?_
              have q8 := jinj1 h
              subst q8
              exact j_zret hC dX6_isAsKind_80 (by decide)
        · have h := jit_f c31 h
          refine j_iconst (v := 0) (pc' := 51) hC dX6_isAsKind_50 rfl rfl ?_
          have q8 := jinj1 h
          subst q8
          exact j_zret hC dX6_isAsKind_51 (by decide)
    · have h := jit_f c21 h
      refine j_iconst (v := 0) (pc' := 24) hC dX6_isAsKind_23 rfl rfl ?_
      have q8 := jinj1 h
      subst q8
      exact j_zret hC dX6_isAsKind_24 (by decide)
theorem t_X6_canBe (l : Launch) (E : jE) {a1 : Int32} {a2 : Int32} {a3 : Int32} {a4 : Int32} {M : jM} {r : Int32} (h : f_X6_canBe a1 a2 a3 a4 M = some r) : jCi l yX6_canBe cX6_canBe 5 (some .boolean) 3 68 E RM GM (fun a _ => [.ref (a 0), .int a1, .int a2, .int a3, .int a4]) M r M := by
  refine jCi_of (own := RX6) (by decide) rfl (fun _ _ => Nat.le_of_ble_eq_true rfl) ?_
  intro Γ hC
  show jJ Γ GM RM 0 [(0, .ref (jad Γ 0)), (1, .int a1), (2, .int a2), (3, .int a3), (4, .int a4)] [] M (jQi Γ RM GM r M)
  unfold f_X6_canBe at h
  refine j_iload_n 3 (pc' := 1) hC dX6_canBe_0 rfl rfl ?_
  refine j_iload_n 1 (pc' := 2) hC dX6_canBe_1 rfl rfl ?_
  obtain ⟨r1, hc2, h⟩ := jb1_s h
  refine j_callSi [.int a3, .int a1] (pc' := 5) hC dX6_canBe_2 rfl (t_X6_has _ _ hc2) cs_X6_136 ⟨⟨Nat.le_of_ble_eq_true rfl, Nat.le_of_ble_eq_true rfl⟩, rfl, Nat.le_of_ble_eq_true rfl⟩ rfl rfl ?_
  refine j_if_ne (tgt := 46) (pc' := 8) hC dX6_canBe_5 (by decide) rfl (fun c3 => ?_) (fun c3 => ?_)
  · have h := jit_f c3 h
    refine j_iconst (v := 0) (pc' := 47) hC dX6_canBe_46 rfl rfl ?_
    have q8 := jinj1 h
    subst q8
    exact j_zret hC dX6_canBe_47 (by decide)
  · have h := jit_t c3 h
    refine j_aload_n 0 (pc' := 9) hC dX6_canBe_8 rfl rfl ?_
    refine j_getr' (o2 := 7) (pc' := 12) hC dX6_canBe_9 rfl fi_X6_28 gm0 rfl ?_
    refine j_iload_n 1 (pc' := 13) hC dX6_canBe_12 rfl rfl ?_
    obtain ⟨g4, h⟩ := jg_s h
    refine j_iald (pc' := 14) hC dX6_canBe_13 rfl gm7 g4 ?_
    refine j_iload_n 3 (pc' := 15) hC dX6_canBe_14 rfl rfl ?_
    refine j_iconst (v := -1) (pc' := 16) hC dX6_canBe_15 rfl rfl ?_
    refine j_ixor (pc' := 17) hC dX6_canBe_16 rfl ?_
    refine j_iand (pc' := 18) hC dX6_canBe_17 rfl ?_
    refine j_if_ne (tgt := 46) (pc' := 21) hC dX6_canBe_18 (by decide) rfl (fun c5 => ?_) (fun c5 => ?_)
    · have h := jit_f c5 h
      refine j_iconst (v := 0) (pc' := 47) hC dX6_canBe_46 rfl rfl ?_
      have q8 := jinj1 h
      subst q8
      exact j_zret hC dX6_canBe_47 (by decide)
    · have h := jit_t c5 h
      refine j_aload_n 0 (pc' := 22) hC dX6_canBe_21 rfl rfl ?_
      refine j_iload_n 1 (pc' := 23) hC dX6_canBe_22 rfl rfl ?_
      refine j_iload_n 2 (pc' := 24) hC dX6_canBe_23 rfl rfl ?_
      obtain ⟨r6, hc7, h⟩ := jb1_s h
      refine j_callVi [.int a1, .int a2] (pc' := 27) hC dX6_canBe_24 rfl (t_X6_isLight _ _ hc7) gm0 vcl6 cv_X6_203 ⟨⟨Nat.le_of_ble_eq_true rfl, Nat.le_of_ble_eq_true rfl⟩, rfl, Nat.le_of_ble_eq_true rfl⟩ rfl rfl ?_
      refine j_if_eq (tgt := 46) (pc' := 30) hC dX6_canBe_27 (by decide) rfl (fun c8 => ?_) (fun c8 => ?_)
      · have h := jit_t c8 h
        refine j_iconst (v := 0) (pc' := 47) hC dX6_canBe_46 rfl rfl ?_
        have q8 := jinj1 h
        subst q8
        exact j_zret hC dX6_canBe_47 (by decide)
      · have h := jit_f c8 h
        refine j_aload_n 0 (pc' := 31) hC dX6_canBe_30 rfl rfl ?_
        refine j_iload_n 1 (pc' := 32) hC dX6_canBe_31 rfl rfl ?_
        refine j_iload_n 2 (pc' := 33) hC dX6_canBe_32 rfl rfl ?_
        refine j_iload_n 3 (pc' := 34) hC dX6_canBe_33 rfl rfl ?_
        refine j_iload 4 (pc' := 36) hC dX6_canBe_34 rfl rfl ?_
        obtain ⟨r9, hc10, h⟩ := jb1_s h
        refine j_callVi [.int a1, .int a2, .int a3, .int a4] (pc' := 39) hC dX6_canBe_36 rfl (t_X6_isAsKind _ _ hc10) gm0 vcl6 cv_X6_206 ⟨⟨Nat.le_of_ble_eq_true rfl, Nat.le_of_ble_eq_true rfl⟩, rfl, Nat.le_of_ble_eq_true rfl⟩ rfl rfl ?_
        refine j_if_eq (tgt := 46) (pc' := 42) hC dX6_canBe_39 (by decide) rfl (fun c11 => ?_) (fun c11 => ?_)
        · have h := jit_t c11 h
          refine j_iconst (v := 0) (pc' := 47) hC dX6_canBe_46 rfl rfl ?_
          have q8 := jinj1 h
          subst q8
          exact j_zret hC dX6_canBe_47 (by decide)
        · have h := jit_f c11 h
          refine j_iconst (v := 1) (pc' := 43) hC dX6_canBe_42 rfl rfl ?_
          refine j_goto (tgt := 47) (pc' := 0) hC dX6_canBe_43 (by decide) ?_
          have q8 := jinj1 h
          subst q8
          exact j_zret hC dX6_canBe_47 (by decide)
theorem t_X6_canNow (l : Launch) (E : jE) {a1 : Int32} {a2 : Int32} {M : jM} {r : Int32} (h : f_X6_canNow a1 a2 M = some r) : jCi l yX6_canNow cX6_canNow 3 (some .boolean) 4 92 E RM GM (fun a _ => [.ref (a 0), .int a1, .int a2]) M r M := by
  refine jCi_of (own := RX6) (by decide) rfl (fun _ _ => Nat.le_of_ble_eq_true rfl) ?_
  intro Γ hC
  show jJ Γ GM RM 0 [(0, .ref (jad Γ 0)), (1, .int a1), (2, .int a2)] [] M (jQi Γ RM GM r M)
  unfold f_X6_canNow at h
  refine j_aload_n 0 (pc' := 1) hC dX6_canNow_0 rfl rfl ?_
  refine j_iload_n 1 (pc' := 2) hC dX6_canNow_1 rfl rfl ?_
  refine j_iload_n 2 (pc' := 3) hC dX6_canNow_2 rfl rfl ?_
  refine j_aload_n 0 (pc' := 4) hC dX6_canNow_3 rfl rfl ?_
  refine j_getr' (o2 := 12) (pc' := 7) hC dX6_canNow_4 rfl fi_X6_43 gm0 rfl ?_
  refine j_iconst (v := 3) (pc' := 8) hC dX6_canNow_7 rfl rfl ?_
  refine j_iald (pc' := 9) hC dX6_canNow_8 rfl gm12 (by decide) ?_
  refine j_aload_n 0 (pc' := 10) hC dX6_canNow_9 rfl rfl ?_
  refine j_getr' (o2 := 12) (pc' := 13) hC dX6_canNow_10 rfl fi_X6_43 gm0 rfl ?_
  refine j_iconst (v := 4) (pc' := 14) hC dX6_canNow_13 rfl rfl ?_
  refine j_iald (pc' := 15) hC dX6_canNow_14 rfl gm12 (by decide) ?_
  obtain ⟨r1, hc2, h⟩ := jb1_s h
  refine j_callVi [.int a1, .int a2, .int (gi M 12 (3 : Int32).toNatClampNeg), .int (gi M 12 (4 : Int32).toNatClampNeg)] (pc' := 18) hC dX6_canNow_15 rfl (t_X6_canBe _ _ hc2) gm0 vcl6 cv_X6_210 ⟨⟨Nat.le_of_ble_eq_true rfl, Nat.le_of_ble_eq_true rfl⟩, rfl, Nat.le_of_ble_eq_true rfl⟩ rfl rfl ?_
  obtain ⟨g3, h⟩ := jg_s h
  have q8 := jinj1 h
  subst q8
  exact j_zret hC dX6_canNow_18 (of_decide_eq_true g3)
theorem lp_X6_mark_L58_b {Γ : jG} (hC : jOK Γ cX6_mark 6 RX6 (some .int) { frames := 5, cells := 0, slots := 0, locals := 114 }) {Q : State → Prop} (rec : Int32 → Int32 → Int32 → Int32 → Int32 → jM → Option (Int32 × Int32)) (ih : ∀ (x1 : Int32) (x2 : Int32) (x3 : Int32) (x4 : Int32) (x5 : Int32) (M : jM) (e4 : Int32) (e5 : Int32), rec x1 x2 x3 x4 x5 M = some (e4, e5) → jJ Γ GM RM 122 [(0, .ref (jad Γ 0)), (1, .int x1), (2, .int x2), (3, .int x3), (4, .int e4), (5, .int e5)] [] M Q → jJ Γ GM RM 58 [(0, .ref (jad Γ 0)), (1, .int x1), (2, .int x2), (3, .int x3), (4, .int x4), (5, .int x5)] [] M Q) (x1 : Int32) (x2 : Int32) (x3 : Int32) (x4 : Int32) (x5 : Int32) (M : jM) (e4 : Int32) (e5 : Int32) (h : f_X6_mark_L58_b rec x1 x2 x3 x4 x5 M = some (e4, e5)) (hK : jJ Γ GM RM 122 [(0, .ref (jad Γ 0)), (1, .int x1), (2, .int x2), (3, .int x3), (4, .int e4), (5, .int e5)] [] M Q) : jJ Γ GM RM 58 [(0, .ref (jad Γ 0)), (1, .int x1), (2, .int x2), (3, .int x3), (4, .int x4), (5, .int x5)] [] M Q := by
  unfold f_X6_mark_L58_b at h
  refine j_iload 5 (pc' := 60) hC dX6_mark_58 rfl rfl ?_
  refine j_aload_n 0 (pc' := 61) hC dX6_mark_60 rfl rfl ?_
  refine j_geti' (pc' := 64) hC dX6_mark_61 rfl fi_X6_159 gm0 ?_
  refine j_icmp_ge (tgt := 122) (pc' := 67) hC dX6_mark_64 (by decide) rfl (fun c1 => ?_) (fun c1 => ?_)
  · have h := jit_t c1 h
    obtain ⟨q0, q1⟩ := jinj2 h
    subst q0
    subst q1
    refine j_sub [0, 1, 2, 3, 4, 5] rfl ?_
    exact hK
  · have h := jit_f c1 h
    refine j_iload 4 (pc' := 69) hC dX6_mark_67 rfl rfl ?_
    refine j_iload_n 2 (pc' := 70) hC dX6_mark_69 rfl rfl ?_
    refine j_iconst (v := 2) (pc' := 71) hC dX6_mark_70 rfl rfl ?_
    obtain ⟨v21, hm23, h⟩ := jb1_s h
    have K22 : jJ Γ GM RM 113 [(0, .ref (jad Γ 0)), (1, .int x1), (2, .int x2), (3, .int x3), (4, .int x4), (5, .int x5)] [.int v21, .int x4] M Q := by
      refine j_iadd (pc' := 114) hC dX6_mark_113 rfl ?_
      obtain ⟨v43, ev43, h⟩ := jlet_s h
      refine j_istore (pc' := 116) hC dX6_mark_114 rfl ev43 (by decide) rfl ?_
      obtain ⟨v44, ev44, h⟩ := jlet_s h
      refine j_iinc' 5 (c := 1) (pc' := 119) hC dX6_mark_116 rfl rfl rfl ev44 (by decide) rfl ?_
      refine j_goto (tgt := 58) (pc' := 0) hC dX6_mark_119 (by decide) ?_
      refine j_sub [2, 3, 4, 5, 1, 0] rfl ?_
      exact ih _ _ _ _ _ _ _ _ h hK
    refine j_icmp_ne (tgt := 93) (pc' := 74) hC dX6_mark_71 (by decide) rfl (fun c24 => ?_) (fun c24 => ?_)
    · have hm23 := jit_f c24 hm23
      refine j_iload_n 2 (pc' := 94) hC dX6_mark_93 rfl rfl ?_
      refine j_iconst (v := 5) (pc' := 95) hC dX6_mark_94 rfl rfl ?_
      refine j_icmp_ne (tgt := 112) (pc' := 98) hC dX6_mark_95 (by decide) rfl (fun c25 => ?_) (fun c25 => ?_)
      · have hm23 := jit_f c25 hm23
        refine j_iconst (v := 0) (pc' := 113) hC dX6_mark_112 rfl rfl ?_
        have q8 := jinj1 hm23
        subst q8
        exact j_sub [0, 1, 2, 3, 4, 5] rfl K22
      · have hm23 := jit_t c25 hm23
        refine j_aload_n 0 (pc' := 99) hC dX6_mark_98 rfl rfl ?_
        refine j_iload_n 1 (pc' := 100) hC dX6_mark_99 rfl rfl ?_
        refine j_iload 5 (pc' := 102) hC dX6_mark_100 rfl rfl ?_
        obtain ⟨r26, hc27, hm23⟩ := jb1_s hm23
        refine j_callVi [.int x1, .int x5] (pc' := 105) hC dX6_mark_102 rfl (t_X6_isLight _ _ hc27) gm0 vcl6 cv_X6_203 ⟨⟨Nat.le_of_ble_eq_true rfl, Nat.le_of_ble_eq_true rfl⟩, rfl, Nat.le_of_ble_eq_true rfl⟩ rfl rfl ?_
        refine j_if_eq (tgt := 112) (pc' := 108) hC dX6_mark_105 (by decide) rfl (fun c28 => ?_) (fun c28 => ?_)
        · have hm23 := jit_t c28 hm23
          refine j_iconst (v := 0) (pc' := 113) hC dX6_mark_112 rfl rfl ?_
          have q8 := jinj1 hm23
          subst q8
          exact j_sub [0, 1, 2, 3, 4, 5] rfl K22
        · have hm23 := jit_f c28 hm23
          refine j_iconst (v := 1) (pc' := 109) hC dX6_mark_108 rfl rfl ?_
          refine j_goto (tgt := 113) (pc' := 0) hC dX6_mark_109 (by decide) ?_
          have q8 := jinj1 hm23
          subst q8
          exact j_sub [0, 1, 2, 3, 4, 5] rfl K22
    · have hm23 := jit_t c24 hm23
      refine j_iload_n 3 (pc' := 75) hC dX6_mark_74 rfl rfl ?_
      refine j_iload 5 (pc' := 77) hC dX6_mark_75 rfl rfl ?_
      obtain ⟨r29, hc30, hm23⟩ := jb1_s hm23
      refine j_callSi [.int x3, .int x5] (pc' := 80) hC dX6_mark_77 rfl (t_X6_has _ _ hc30) cs_X6_136 ⟨⟨Nat.le_of_ble_eq_true rfl, Nat.le_of_ble_eq_true rfl⟩, rfl, Nat.le_of_ble_eq_true rfl⟩ rfl rfl ?_
      refine j_if_eq (tgt := 93) (pc' := 83) hC dX6_mark_80 (by decide) rfl (fun c31 => ?_) (fun c31 => ?_)
      · have hm23 := jit_t c31 hm23
        refine j_iload_n 2 (pc' := 94) hC dX6_mark_93 rfl rfl ?_
        refine j_iconst (v := 5) (pc' := 95) hC dX6_mark_94 rfl rfl ?_
        refine j_icmp_ne (tgt := 112) (pc' := 98) hC dX6_mark_95 (by decide) rfl (fun c32 => ?_) (fun c32 => ?_)
        · have hm23 := jit_f c32 hm23
          refine j_iconst (v := 0) (pc' := 113) hC dX6_mark_112 rfl rfl ?_
          have q8 := jinj1 hm23
          subst q8
          exact j_sub [0, 1, 2, 3, 4, 5] rfl K22
        · have hm23 := jit_t c32 hm23
          refine j_aload_n 0 (pc' := 99) hC dX6_mark_98 rfl rfl ?_
          refine j_iload_n 1 (pc' := 100) hC dX6_mark_99 rfl rfl ?_
          refine j_iload 5 (pc' := 102) hC dX6_mark_100 rfl rfl ?_
          obtain ⟨r33, hc34, hm23⟩ := jb1_s hm23
          refine j_callVi [.int x1, .int x5] (pc' := 105) hC dX6_mark_102 rfl (t_X6_isLight _ _ hc34) gm0 vcl6 cv_X6_203 ⟨⟨Nat.le_of_ble_eq_true rfl, Nat.le_of_ble_eq_true rfl⟩, rfl, Nat.le_of_ble_eq_true rfl⟩ rfl rfl ?_
          refine j_if_eq (tgt := 112) (pc' := 108) hC dX6_mark_105 (by decide) rfl (fun c35 => ?_) (fun c35 => ?_)
          · have hm23 := jit_t c35 hm23
            refine j_iconst (v := 0) (pc' := 113) hC dX6_mark_112 rfl rfl ?_
            have q8 := jinj1 hm23
            subst q8
            exact j_sub [0, 1, 2, 3, 4, 5] rfl K22
          · have hm23 := jit_f c35 hm23
            refine j_iconst (v := 1) (pc' := 109) hC dX6_mark_108 rfl rfl ?_
            refine j_goto (tgt := 113) (pc' := 0) hC dX6_mark_109 (by decide) ?_
            have q8 := jinj1 hm23
            subst q8
            exact j_sub [0, 1, 2, 3, 4, 5] rfl K22
      · have hm23 := jit_f c31 hm23
        refine j_aload_n 0 (pc' := 84) hC dX6_mark_83 rfl rfl ?_
        refine j_iload_n 1 (pc' := 85) hC dX6_mark_84 rfl rfl ?_
        refine j_iload 5 (pc' := 87) hC dX6_mark_85 rfl rfl ?_
        obtain ⟨r36, hc37, hm23⟩ := jb1_s hm23
        refine j_callVi [.int x1, .int x5] (pc' := 90) hC dX6_mark_87 rfl (t_X6_canNow _ _ hc37) gm0 vcl6 cv_X6_216 ⟨⟨Nat.le_of_ble_eq_true rfl, Nat.le_of_ble_eq_true rfl⟩, rfl, Nat.le_of_ble_eq_true rfl⟩ rfl rfl ?_
        refine j_if_ne (tgt := 108) (pc' := 93) hC dX6_mark_90 (by decide) rfl (fun c38 => ?_) (fun c38 => ?_)
        · have hm23 := jit_f c38 hm23
          refine j_iconst (v := 1) (pc' := 109) hC dX6_mark_108 rfl rfl ?_
          refine j_goto (tgt := 113) (pc' := 0) hC dX6_mark_109 (by decide) ?_
          have q8 := jinj1 hm23
          subst q8
          exact j_sub [0, 1, 2, 3, 4, 5] rfl K22
        · have hm23 := jit_t c38 hm23
          refine j_iload_n 2 (pc' := 94) hC dX6_mark_93 rfl rfl ?_
          refine j_iconst (v := 5) (pc' := 95) hC dX6_mark_94 rfl rfl ?_
          refine j_icmp_ne (tgt := 112) (pc' := 98) hC dX6_mark_95 (by decide) rfl (fun c39 => ?_) (fun c39 => ?_)
          · have hm23 := jit_f c39 hm23
            refine j_iconst (v := 0) (pc' := 113) hC dX6_mark_112 rfl rfl ?_
            have q8 := jinj1 hm23
            subst q8
            exact j_sub [0, 1, 2, 3, 4, 5] rfl K22
          · have hm23 := jit_t c39 hm23
            refine j_aload_n 0 (pc' := 99) hC dX6_mark_98 rfl rfl ?_
            refine j_iload_n 1 (pc' := 100) hC dX6_mark_99 rfl rfl ?_
            refine j_iload 5 (pc' := 102) hC dX6_mark_100 rfl rfl ?_
            obtain ⟨r40, hc41, hm23⟩ := jb1_s hm23
            refine j_callVi [.int x1, .int x5] (pc' := 105) hC dX6_mark_102 rfl (t_X6_isLight _ _ hc41) gm0 vcl6 cv_X6_203 ⟨⟨Nat.le_of_ble_eq_true rfl, Nat.le_of_ble_eq_true rfl⟩, rfl, Nat.le_of_ble_eq_true rfl⟩ rfl rfl ?_
            refine j_if_eq (tgt := 112) (pc' := 108) hC dX6_mark_105 (by decide) rfl (fun c42 => ?_) (fun c42 => ?_)
            · have hm23 := jit_t c42 hm23
              refine j_iconst (v := 0) (pc' := 113) hC dX6_mark_112 rfl rfl ?_
              have q8 := jinj1 hm23
              subst q8
              exact j_sub [0, 1, 2, 3, 4, 5] rfl K22
            · have hm23 := jit_f c42 hm23
              refine j_iconst (v := 1) (pc' := 109) hC dX6_mark_108 rfl rfl ?_
              refine j_goto (tgt := 113) (pc' := 0) hC dX6_mark_109 (by decide) ?_
              have q8 := jinj1 hm23
              subst q8
              exact j_sub [0, 1, 2, 3, 4, 5] rfl K22
theorem lp_X6_mark_L58 {Γ : jG} (hC : jOK Γ cX6_mark 6 RX6 (some .int) { frames := 5, cells := 0, slots := 0, locals := 114 }) {Q : State → Prop} : ∀ (n : Nat) (x1 : Int32) (x2 : Int32) (x3 : Int32) (x4 : Int32) (x5 : Int32) (M : jM) (e4 : Int32) (e5 : Int32), f_X6_mark_L58 n x1 x2 x3 x4 x5 M = some (e4, e5) → jJ Γ GM RM 122 [(0, .ref (jad Γ 0)), (1, .int x1), (2, .int x2), (3, .int x3), (4, .int e4), (5, .int e5)] [] M Q → jJ Γ GM RM 58 [(0, .ref (jad Γ 0)), (1, .int x1), (2, .int x2), (3, .int x3), (4, .int x4), (5, .int x5)] [] M Q := by
  intro n
  induction n with
  | zero =>
    intro x1 x2 x3 x4 x5 M e4 e5 h hK
    exact jno h
  | succ n ih =>
    intro x1 x2 x3 x4 x5 M e4 e5 h hK
    exact lp_X6_mark_L58_b hC (f_X6_mark_L58 n) ih x1 x2 x3 x4 x5 M e4 e5 h hK
theorem lp_X6_mark_L125_b {Γ : jG} (hC : jOK Γ cX6_mark 6 RX6 (some .int) { frames := 5, cells := 0, slots := 0, locals := 114 }) {Q : State → Prop} (x3 : Int32) (rec : Int32 → Int32 → Int32 → Int32 → jM → Option (Int32 × Int32)) (ih : ∀ (x1 : Int32) (x2 : Int32) (x4 : Int32) (x5 : Int32) (M : jM) (e4 : Int32) (e5 : Int32), rec x1 x2 x4 x5 M = some (e4, e5) → jJ Γ GM RM 169 [(0, .ref (jad Γ 0)), (1, .int x1), (2, .int x2), (3, .int x3), (4, .int e4), (5, .int e5)] [] M Q → jJ Γ GM RM 125 [(0, .ref (jad Γ 0)), (1, .int x1), (2, .int x2), (3, .int x3), (4, .int x4), (5, .int x5)] [] M Q) (x1 : Int32) (x2 : Int32) (x4 : Int32) (x5 : Int32) (M : jM) (e4 : Int32) (e5 : Int32) (h : f_X6_mark_L125_b rec x1 x2 x4 x5 M = some (e4, e5)) (hK : jJ Γ GM RM 169 [(0, .ref (jad Γ 0)), (1, .int x1), (2, .int x2), (3, .int x3), (4, .int e4), (5, .int e5)] [] M Q) : jJ Γ GM RM 125 [(0, .ref (jad Γ 0)), (1, .int x1), (2, .int x2), (3, .int x3), (4, .int x4), (5, .int x5)] [] M Q := by
  unfold f_X6_mark_L125_b at h
  refine j_iload 5 (pc' := 127) hC dX6_mark_125 rfl rfl ?_
  refine j_aload_n 0 (pc' := 128) hC dX6_mark_127 rfl rfl ?_
  refine j_geti' (pc' := 131) hC dX6_mark_128 rfl fi_X6_156 gm0 ?_
  refine j_icmp_ge (tgt := 169) (pc' := 134) hC dX6_mark_131 (by decide) rfl (fun c1 => ?_) (fun c1 => ?_)
  · have h := jit_t c1 h
    obtain ⟨q0, q1⟩ := jinj2 h
    subst q0
    subst q1
    refine j_sub [0, 1, 2, 3, 4, 5] rfl ?_
    exact hK
  · have h := jit_f c1 h
    refine j_iload_n 2 (pc' := 135) hC dX6_mark_134 rfl rfl ?_
    refine j_iconst (v := 3) (pc' := 136) hC dX6_mark_135 rfl rfl ?_
    refine j_icmp_ne (tgt := 169) (pc' := 139) hC dX6_mark_136 (by decide) rfl (fun c2 => ?_) (fun c2 => ?_)
    · have h := jit_f c2 h
      obtain ⟨q0, q1⟩ := jinj2 h
      subst q0
      subst q1
      refine j_sub [0, 1, 2, 3, 4, 5] rfl ?_
      exact hK
    · have h := jit_t c2 h
      refine j_iload 4 (pc' := 141) hC dX6_mark_139 rfl rfl ?_
      refine j_aload_n 0 (pc' := 142) hC dX6_mark_141 rfl rfl ?_
      refine j_getr' (o2 := 7) (pc' := 145) hC dX6_mark_142 rfl fi_X6_28 gm0 rfl ?_
      refine j_iload 5 (pc' := 147) hC dX6_mark_145 rfl rfl ?_
      obtain ⟨g3, h⟩ := jg_s h
      refine j_iald (pc' := 148) hC dX6_mark_147 rfl gm7 g3 ?_
      refine j_iload_n 1 (pc' := 149) hC dX6_mark_148 rfl rfl ?_
      obtain ⟨r4, hc5, h⟩ := jb1_s h
      refine j_callSi [.int (gi M 7 x5.toNatClampNeg), .int x1] (pc' := 152) hC dX6_mark_149 rfl (t_X6_has _ _ hc5) cs_X6_136 ⟨⟨Nat.le_of_ble_eq_true rfl, Nat.le_of_ble_eq_true rfl⟩, rfl, Nat.le_of_ble_eq_true rfl⟩ rfl rfl ?_
      obtain ⟨v7, hm9, h⟩ := jlet_s h
      have K8 : jJ Γ GM RM 160 [(0, .ref (jad Γ 0)), (1, .int x1), (2, .int x2), (3, .int x3), (4, .int x4), (5, .int x5)] [.int v7, .int x4] M Q := by
        refine j_iadd (pc' := 161) hC dX6_mark_160 rfl ?_
        obtain ⟨v11, ev11, h⟩ := jlet_s h
        refine j_istore (pc' := 163) hC dX6_mark_161 rfl ev11 (by decide) rfl ?_
        obtain ⟨v12, ev12, h⟩ := jlet_s h
        refine j_iinc' 5 (c := 1) (pc' := 166) hC dX6_mark_163 rfl rfl rfl ev12 (by decide) rfl ?_
        refine j_goto (tgt := 125) (pc' := 0) hC dX6_mark_166 (by decide) ?_
        refine j_sub [2, 3, 4, 5, 1, 0] rfl ?_
        exact ih _ _ _ _ _ _ _ h hK
      refine j_if_eq (tgt := 159) (pc' := 155) hC dX6_mark_152 (by decide) rfl (fun c10 => ?_) (fun c10 => ?_)
      · have hm9 := jit_t c10 hm9
        refine j_iconst (v := 0) (pc' := 160) hC dX6_mark_159 rfl rfl ?_
        subst hm9
        exact j_sub [0, 1, 2, 3, 4, 5] rfl K8
      · have hm9 := jit_f c10 hm9
        refine j_iconst (v := 1) (pc' := 156) hC dX6_mark_155 rfl rfl ?_
        refine j_goto (tgt := 160) (pc' := 0) hC dX6_mark_156 (by decide) ?_
        subst hm9
        exact j_sub [0, 1, 2, 3, 4, 5] rfl K8
theorem lp_X6_mark_L125 {Γ : jG} (hC : jOK Γ cX6_mark 6 RX6 (some .int) { frames := 5, cells := 0, slots := 0, locals := 114 }) {Q : State → Prop} (x3 : Int32) : ∀ (n : Nat) (x1 : Int32) (x2 : Int32) (x4 : Int32) (x5 : Int32) (M : jM) (e4 : Int32) (e5 : Int32), f_X6_mark_L125 n x1 x2 x4 x5 M = some (e4, e5) → jJ Γ GM RM 169 [(0, .ref (jad Γ 0)), (1, .int x1), (2, .int x2), (3, .int x3), (4, .int e4), (5, .int e5)] [] M Q → jJ Γ GM RM 125 [(0, .ref (jad Γ 0)), (1, .int x1), (2, .int x2), (3, .int x3), (4, .int x4), (5, .int x5)] [] M Q := by
  intro n
  induction n with
  | zero =>
    intro x1 x2 x4 x5 M e4 e5 h hK
    exact jno h
  | succ n ih =>
    intro x1 x2 x4 x5 M e4 e5 h hK
    exact lp_X6_mark_L125_b hC x3 (f_X6_mark_L125 n) ih x1 x2 x4 x5 M e4 e5 h hK
theorem t_X6_mark (l : Launch) (E : jE) {a1 : Int32} {a2 : Int32} {M : jM} {r : Int32} {M' : jM} (h : f_X6_mark a1 a2 M = some (r, M')) : jCi l yX6_mark cX6_mark 6 (some .int) 5 114 E RM GM (fun a _ => [.ref (a 0), .int a1, .int a2]) M r M' := by
  refine jCi_of (own := RX6) (by decide) rfl (fun _ _ => Nat.le_of_ble_eq_true rfl) ?_
  intro Γ hC
  show jJ Γ GM RM 0 [(0, .ref (jad Γ 0)), (1, .int a1), (2, .int a2)] [] M (jQi Γ RM GM r M')
  unfold f_X6_mark at h
  refine j_aload_n 0 (pc' := 1) hC dX6_mark_0 rfl rfl ?_
  refine j_iload_n 1 (pc' := 2) hC dX6_mark_1 rfl rfl ?_
  obtain ⟨r1, hc2, h⟩ := jb1_s h
  refine j_callVi [.int a1] (pc' := 5) hC dX6_mark_2 rfl (t_X6_isDeed _ _ hc2) gm0 vcl6 cv_X6_168 ⟨⟨Nat.le_of_ble_eq_true rfl, Nat.le_of_ble_eq_true rfl⟩, rfl, Nat.le_of_ble_eq_true rfl⟩ rfl rfl ?_
  refine j_if_eq (tgt := 20) (pc' := 8) hC dX6_mark_5 (by decide) rfl (fun c3 => ?_) (fun c3 => ?_)
  · have h := jit_t c3 h
    refine j_iconst (v := -1) (pc' := 21) hC dX6_mark_20 rfl rfl ?_
    obtain ⟨q0, q1⟩ := jinj2 h
    subst q0
    subst q1
    exact j_iret hC dX6_mark_21
  · have h := jit_f c3 h
    refine j_iload_n 2 (pc' := 9) hC dX6_mark_8 rfl rfl ?_
    refine j_i2l (pc' := 10) hC dX6_mark_9 rfl ?_
    refine j_lconst (v := 1) (pc' := 11) hC dX6_mark_10 rfl rfl ?_
    refine j_ldc2 (pc' := 14) hC dX6_mark_11 rfl ck_X6_91 ?_
    obtain ⟨r4, hc5, h⟩ := jb1_s h
    refine j_callSi [.long a2.toInt64, .long (1 : Int64), .long (5 : Int64)] (pc' := 17) hC dX6_mark_14 rfl (t_X6_in _ _ hc5) cs_X6_93 ⟨⟨Nat.le_of_ble_eq_true rfl, Nat.le_of_ble_eq_true rfl⟩, rfl, Nat.le_of_ble_eq_true rfl⟩ rfl rfl ?_
    refine j_if_ne (tgt := 22) (pc' := 20) hC dX6_mark_17 (by decide) rfl (fun c6 => ?_) (fun c6 => ?_)
    · have h := jit_f c6 h
      refine j_aload_n 0 (pc' := 23) hC dX6_mark_22 rfl rfl ?_
      refine j_getr' (o2 := 5) (pc' := 26) hC dX6_mark_23 rfl fi_X6_22 gm0 rfl ?_
      refine j_iload_n 1 (pc' := 27) hC dX6_mark_26 rfl rfl ?_
      obtain ⟨g7, h⟩ := jg_s h
      refine j_iald (pc' := 28) hC dX6_mark_27 rfl gm5 g7 ?_
      refine j_iload_n 2 (pc' := 29) hC dX6_mark_28 rfl rfl ?_
      obtain ⟨r8, hc9, h⟩ := jb1_s h
      refine j_callSi [.int (gi M 5 a1.toNatClampNeg), .int a2] (pc' := 32) hC dX6_mark_29 rfl (t_X6_isKind _ _ hc9) cs_X6_195 ⟨⟨Nat.le_of_ble_eq_true rfl, Nat.le_of_ble_eq_true rfl⟩, rfl, Nat.le_of_ble_eq_true rfl⟩ rfl rfl ?_
      refine j_if_ne (tgt := 41) (pc' := 35) hC dX6_mark_32 (by decide) rfl (fun c10 => ?_) (fun c10 => ?_)
      · have h := jit_f c10 h
        refine j_aload_n 0 (pc' := 42) hC dX6_mark_41 rfl rfl ?_
        refine j_aload_n 0 (pc' := 43) hC dX6_mark_42 rfl rfl ?_
        refine j_getr' (o2 := 12) (pc' := 46) hC dX6_mark_43 rfl fi_X6_43 gm0 rfl ?_
        refine j_iconst (v := 0) (pc' := 47) hC dX6_mark_46 rfl rfl ?_
        refine j_iald (pc' := 48) hC dX6_mark_47 rfl gm12 (by decide) ?_
        obtain ⟨r11, hc12, h⟩ := jb1_s h
        refine j_callVi [.int (gi M 12 (0 : Int32).toNatClampNeg)] (pc' := 51) hC dX6_mark_48 rfl (t_X6_shelfOn _ _ hc12) gm0 vcl6 cv_X6_213 ⟨⟨Nat.le_of_ble_eq_true rfl, Nat.le_of_ble_eq_true rfl⟩, rfl, Nat.le_of_ble_eq_true rfl⟩ rfl rfl ?_
        refine j_istore_n (pc' := 52) hC dX6_mark_51 rfl rfl (by decide) rfl ?_
        refine j_iconst (v := 0) (pc' := 53) hC dX6_mark_52 rfl rfl ?_
        refine j_istore (pc' := 55) hC dX6_mark_53 rfl rfl (by decide) rfl ?_
        refine j_iconst (v := 0) (pc' := 56) hC dX6_mark_55 rfl rfl ?_
        refine j_istore (pc' := 58) hC dX6_mark_56 rfl rfl (by decide) rfl ?_
        refine j_sub [3, 4, 5, 2, 1, 0] rfl ?_
        obtain ⟨v13, v14, hm15, h⟩ := jb2_s h
        refine lp_X6_mark_L58 hC  jfu a1 a2 r11 (0 : Int32) (0 : Int32) M v13 v14 hm15 ?_
        refine j_iconst (v := 0) (pc' := 123) hC dX6_mark_122 rfl rfl ?_
        refine j_istore (pc' := 125) hC dX6_mark_123 rfl rfl (by decide) rfl ?_
        refine j_sub [1, 2, 3, 4, 5, 0] rfl ?_
        obtain ⟨v16, v17, hm18, h⟩ := jb2_s h
        refine lp_X6_mark_L125 hC r11 jfu a1 a2 v13 (0 : Int32) M v16 v17 hm18 ?_
        refine j_iload_n 2 (pc' := 170) hC dX6_mark_169 rfl rfl ?_
        refine j_iconst (v := 1) (pc' := 171) hC dX6_mark_170 rfl rfl ?_
        refine j_icmp_ne (tgt := 183) (pc' := 174) hC dX6_mark_171 (by decide) rfl (fun c19 => ?_) (fun c19 => ?_)
        · have h := jit_f c19 h
          refine j_iload_n 2 (pc' := 184) hC dX6_mark_183 rfl rfl ?_
          refine j_iconst (v := 4) (pc' := 185) hC dX6_mark_184 rfl rfl ?_
          refine j_icmp_ne (tgt := 209) (pc' := 188) hC dX6_mark_185 (by decide) rfl (fun c20 => ?_) (fun c20 => ?_)
          · have h := jit_f c20 h
            refine j_iload 4 (pc' := 211) hC dX6_mark_209 rfl rfl ?_
            obtain ⟨q0, q1⟩ := jinj2 h
            subst q0
            subst q1
            exact j_iret hC dX6_mark_211
          · have h := jit_t c20 h
            refine j_aload_n 0 (pc' := 189) hC dX6_mark_188 rfl rfl ?_
            refine j_getr' (o2 := 12) (pc' := 192) hC dX6_mark_189 rfl fi_X6_43 gm0 rfl ?_
            refine j_iconst (v := 3) (pc' := 193) hC dX6_mark_192 rfl rfl ?_
            refine j_iald (pc' := 194) hC dX6_mark_193 rfl gm12 (by decide) ?_
            refine j_aload_n 0 (pc' := 195) hC dX6_mark_194 rfl rfl ?_
            refine j_getr' (o2 := 7) (pc' := 198) hC dX6_mark_195 rfl fi_X6_28 gm0 rfl ?_
            refine j_iload_n 1 (pc' := 199) hC dX6_mark_198 rfl rfl ?_
            obtain ⟨g21, h⟩ := jg_s h
            refine j_iald (pc' := 200) hC dX6_mark_199 rfl gm7 g21 ?_
            refine j_iconst (v := -1) (pc' := 201) hC dX6_mark_200 rfl rfl ?_
            refine j_ixor (pc' := 202) hC dX6_mark_201 rfl ?_
            refine j_iand (pc' := 203) hC dX6_mark_202 rfl ?_
            obtain ⟨r22, hc23, h⟩ := jb1_s h
            refine j_callSi [.int ((gi M 12 (3 : Int32).toNatClampNeg) &&& ((gi M 7 a1.toNatClampNeg) ^^^ (-1 : Int32)))] (pc' := 206) hC dX6_mark_203 rfl (t_X6_ones _ _ hc23) cs_X6_200 ⟨⟨Nat.le_of_ble_eq_true rfl, Nat.le_of_ble_eq_true rfl⟩, rfl, Nat.le_of_ble_eq_true rfl⟩ rfl rfl ?_
            refine j_goto (tgt := 211) (pc' := 0) hC dX6_mark_206 (by decide) ?_
            obtain ⟨q0, q1⟩ := jinj2 h
            subst q0
            subst q1
            exact j_iret hC dX6_mark_211
        · have h := jit_t c19 h
          refine j_aload_n 0 (pc' := 175) hC dX6_mark_174 rfl rfl ?_
          refine j_getr' (o2 := 12) (pc' := 178) hC dX6_mark_175 rfl fi_X6_43 gm0 rfl ?_
          refine j_iconst (v := 4) (pc' := 179) hC dX6_mark_178 rfl rfl ?_
          refine j_iald (pc' := 180) hC dX6_mark_179 rfl gm12 (by decide) ?_
          refine j_goto (tgt := 211) (pc' := 0) hC dX6_mark_180 (by decide) ?_
          obtain ⟨q0, q1⟩ := jinj2 h
          subst q0
          subst q1
          exact j_iret hC dX6_mark_211
      · have h := jit_t c10 h
        refine j_aload_n 0 (pc' := 36) hC dX6_mark_35 rfl rfl ?_
        refine j_iconst (v := 3) (pc' := 37) hC dX6_mark_36 rfl rfl ?_
        obtain ⟨r24, M25, hc26, h⟩ := jb2_s h
        refine j_callVi [.int (3 : Int32)] (pc' := 40) hC dX6_mark_37 rfl (t_X6_find _ _ hc26) gm0 vcl6 cv_X6_103 ⟨⟨Nat.le_of_ble_eq_true rfl, Nat.le_of_ble_eq_true rfl⟩, rfl, Nat.le_of_ble_eq_true rfl⟩ rfl rfl ?_
        obtain ⟨q0, q1⟩ := jinj2 h
        subst q0
        subst q1
        exact j_iret hC dX6_mark_40
    · have h := jit_t c6 h
      refine j_iconst (v := -1) (pc' := 21) hC dX6_mark_20 rfl rfl ?_
      obtain ⟨q0, q1⟩ := jinj2 h
      subst q0
      subst q1
      exact j_iret hC dX6_mark_21
theorem t_X6_route (l : Launch) (E : jE) {a1 : Int32} {a2 : Int32} {M : jM} {r : Int32} {M' : jM} (h : f_X6_route a1 a2 M = some (r, M')) : jCi l yX6_route cX6_route 4 (some .int) 1 25 E RM GM (fun a _ => [.ref (a 0), .int a1, .int a2]) M r M' := by
  refine jCi_of (own := RX6) (by decide) rfl (fun _ _ => Nat.le_of_ble_eq_true rfl) ?_
  intro Γ hC
  show jJ Γ GM RM 0 [(0, .ref (jad Γ 0)), (1, .int a1), (2, .int a2)] [] M (jQi Γ RM GM r M')
  unfold f_X6_route at h
  refine j_iload_n 1 (pc' := 1) hC dX6_route_0 rfl rfl ?_
  refine j_i2l (pc' := 2) hC dX6_route_1 rfl ?_
  refine j_lconst (v := 0) (pc' := 3) hC dX6_route_2 rfl rfl ?_
  refine j_ldc2 (pc' := 6) hC dX6_route_3 rfl ck_X6_219 ?_
  obtain ⟨r1, hc2, h⟩ := jb1_s h
  refine j_callSi [.long a1.toInt64, .long (0 : Int64), .long (2 : Int64)] (pc' := 9) hC dX6_route_6 rfl (t_X6_in _ _ hc2) cs_X6_93 ⟨⟨Nat.le_of_ble_eq_true rfl, Nat.le_of_ble_eq_true rfl⟩, rfl, Nat.le_of_ble_eq_true rfl⟩ rfl rfl ?_
  refine j_if_eq (tgt := 24) (pc' := 12) hC dX6_route_9 (by decide) rfl (fun c3 => ?_) (fun c3 => ?_)
  · have h := jit_t c3 h
    refine j_iconst (v := -1) (pc' := 25) hC dX6_route_24 rfl rfl ?_
    obtain ⟨q0, q1⟩ := jinj2 h
    subst q0
    subst q1
    exact j_iret hC dX6_route_25
  · have h := jit_f c3 h
    refine j_iload_n 2 (pc' := 13) hC dX6_route_12 rfl rfl ?_
    refine j_i2l (pc' := 14) hC dX6_route_13 rfl ?_
    refine j_lconst (v := 0) (pc' := 15) hC dX6_route_14 rfl rfl ?_
    refine j_ldc2 (pc' := 18) hC dX6_route_15 rfl ck_X6_221 ?_
    obtain ⟨r4, hc5, h⟩ := jb1_s h
    refine j_callSi [.long a2.toInt64, .long (0 : Int64), .long (9 : Int64)] (pc' := 21) hC dX6_route_18 rfl (t_X6_in _ _ hc5) cs_X6_93 ⟨⟨Nat.le_of_ble_eq_true rfl, Nat.le_of_ble_eq_true rfl⟩, rfl, Nat.le_of_ble_eq_true rfl⟩ rfl rfl ?_
    refine j_if_ne (tgt := 26) (pc' := 24) hC dX6_route_21 (by decide) rfl (fun c6 => ?_) (fun c6 => ?_)
    · have h := jit_f c6 h
      refine j_aload_n 0 (pc' := 27) hC dX6_route_26 rfl rfl ?_
      refine j_geti' (pc' := 30) hC dX6_route_27 rfl fi_X6_162 gm0 ?_
      refine j_if_le (tgt := 36) (pc' := 33) hC dX6_route_30 (by decide) rfl (fun c7 => ?_) (fun c7 => ?_)
      · have h := jit_t c7 h
        refine j_aload_n 0 (pc' := 37) hC dX6_route_36 rfl rfl ?_
        refine j_getr' (o2 := 11) (pc' := 40) hC dX6_route_37 rfl fi_X6_40 gm0 rfl ?_
        refine j_iload_n 1 (pc' := 41) hC dX6_route_40 rfl rfl ?_
        obtain ⟨g8, h⟩ := jg_s h
        refine j_iald (pc' := 42) hC dX6_route_41 rfl gm11 g8 ?_
        obtain ⟨v9, ev9, h⟩ := jlet_s h
        refine j_istore_n (pc' := 43) hC dX6_route_42 rfl ev9 (by decide) rfl ?_
        refine j_aload_n 1 (pc' := 44) hC dX6_route_43 rfl rfl ?_
        refine j_getr' (o2 := 11) (pc' := 47) hC dX6_route_44 rfl fi_X6_40 gm0 rfl ?_
        refine j_iload_n 2 (pc' := 48) hC dX6_route_47 rfl rfl ?_
        refine j_iload_n 3 (pc' := 49) hC dX6_route_48 rfl rfl ?_
        obtain ⟨g10, h⟩ := jg_s h
        obtain ⟨M11, eM11, h⟩ := jlet_s h
        refine j_iast' (pc' := 50) hC dX6_route_49 rfl gm11 g10 eM11 ?_
        refine j_iload_n 0 (pc' := 51) hC dX6_route_50 rfl rfl ?_
        obtain ⟨q0, q1⟩ := jinj2 h
        subst q0
        subst q1
        exact j_iret hC dX6_route_51
      · have h := jit_f c7 h
        refine j_bipush (v := -4) (pc' := 35) hC dX6_route_33 rfl rfl ?_
        obtain ⟨q0, q1⟩ := jinj2 h
        subst q0
        subst q1
        exact j_iret hC dX6_route_35
    · have h := jit_t c6 h
      refine j_iconst (v := -1) (pc' := 25) hC dX6_route_24 rfl rfl ?_
      obtain ⟨q0, q1⟩ := jinj2 h
      subst q0
      subst q1
      exact j_iret hC dX6_route_25
theorem lp_X6_note_L2_b {Γ : jG} (hC : jOK Γ cX6_note 2 RX6 (none) { frames := 0, cells := 0, slots := 0, locals := 0 }) {Q : State → Prop} (rec : Int32 → jM → Option (Int32 × jM)) (ih : ∀ (x1 : Int32) (M : jM) (e1 : Int32) (Me : jM), rec x1 M = some (e1, Me) → jJ Γ GM RM 34 [(0, .ref (jad Γ 0)), (1, .int e1)] [] Me Q → jJ Γ GM RM 2 [(0, .ref (jad Γ 0)), (1, .int x1)] [] M Q) (x1 : Int32) (M : jM) (e1 : Int32) (Me : jM) (h : f_X6_note_L2_b rec x1 M = some (e1, Me)) (hK : jJ Γ GM RM 34 [(0, .ref (jad Γ 0)), (1, .int e1)] [] Me Q) : jJ Γ GM RM 2 [(0, .ref (jad Γ 0)), (1, .int x1)] [] M Q := by
  unfold f_X6_note_L2_b at h
  refine j_iload_n 1 (pc' := 3) hC dX6_note_2 rfl rfl ?_
  refine j_bipush (v := 12) (pc' := 5) hC dX6_note_3 rfl rfl ?_
  refine j_icmp_ge (tgt := 34) (pc' := 8) hC dX6_note_5 (by decide) rfl (fun c1 => ?_) (fun c1 => ?_)
  · have h := jit_t c1 h
    obtain ⟨q0, q1⟩ := jinj2 h
    subst q0
    subst q1
    refine j_sub [0, 1] rfl ?_
    exact hK
  · have h := jit_f c1 h
    refine j_aload_n 0 (pc' := 9) hC dX6_note_8 rfl rfl ?_
    refine j_getr' (o2 := 13) (pc' := 12) hC dX6_note_9 rfl fi_X6_46 gm0 rfl ?_
    refine j_bipush (v := 12) (pc' := 14) hC dX6_note_12 rfl rfl ?_
    refine j_aload_n 0 (pc' := 15) hC dX6_note_14 rfl rfl ?_
    refine j_geti' (pc' := 18) hC dX6_note_15 rfl fi_X6_162 gm0 ?_
    refine j_imul (pc' := 19) hC dX6_note_18 rfl ?_
    refine j_iload_n 1 (pc' := 20) hC dX6_note_19 rfl rfl ?_
    refine j_iadd (pc' := 21) hC dX6_note_20 rfl ?_
    refine j_aload_n 0 (pc' := 22) hC dX6_note_21 rfl rfl ?_
    refine j_getr' (o2 := 12) (pc' := 25) hC dX6_note_22 rfl fi_X6_43 gm0 rfl ?_
    refine j_iload_n 1 (pc' := 26) hC dX6_note_25 rfl rfl ?_
    obtain ⟨g2, h⟩ := jg_s h
    refine j_iald (pc' := 27) hC dX6_note_26 rfl gm12 g2 ?_
    obtain ⟨g3, h⟩ := jg_s h
    obtain ⟨M4, eM4, h⟩ := jlet_s h
    refine j_iast' (pc' := 28) hC dX6_note_27 rfl gm13 g3 eM4 ?_
    obtain ⟨v5, ev5, h⟩ := jlet_s h
    refine j_iinc' 1 (c := 1) (pc' := 31) hC dX6_note_28 rfl rfl rfl ev5 (by decide) rfl ?_
    refine j_goto (tgt := 2) (pc' := 0) hC dX6_note_31 (by decide) ?_
    refine j_sub [1, 0] rfl ?_
    exact ih _ _ _ _ h hK
theorem lp_X6_note_L2 {Γ : jG} (hC : jOK Γ cX6_note 2 RX6 (none) { frames := 0, cells := 0, slots := 0, locals := 0 }) {Q : State → Prop} : ∀ (n : Nat) (x1 : Int32) (M : jM) (e1 : Int32) (Me : jM), f_X6_note_L2 n x1 M = some (e1, Me) → jJ Γ GM RM 34 [(0, .ref (jad Γ 0)), (1, .int e1)] [] Me Q → jJ Γ GM RM 2 [(0, .ref (jad Γ 0)), (1, .int x1)] [] M Q := by
  intro n
  induction n with
  | zero =>
    intro x1 M e1 Me h hK
    exact jno h
  | succ n ih =>
    intro x1 M e1 Me h hK
    exact lp_X6_note_L2_b hC (f_X6_note_L2 n) ih x1 M e1 Me h hK
theorem t_X6_note (l : Launch) (E : jE) {M : jM} {M' : jM} (h : f_X6_note M = some M') : jCv l yX6_note cX6_note 2 (none) 0 0 E RM GM (fun a _ => [.ref (a 0)]) M M' := by
  refine jCv_of (own := RX6) (by decide) rfl (fun _ _ => Nat.le_of_ble_eq_true rfl) ?_
  intro Γ hC
  show jJ Γ GM RM 0 [(0, .ref (jad Γ 0))] [] M (jQv Γ RM GM M')
  unfold f_X6_note at h
  refine j_iconst (v := 0) (pc' := 1) hC dX6_note_0 rfl rfl ?_
  refine j_istore_n (pc' := 2) hC dX6_note_1 rfl rfl (by decide) rfl ?_
  refine j_sub [1, 0] rfl ?_
  obtain ⟨v1, M2, hm3, h⟩ := jb2_s h
  refine lp_X6_note_L2 hC  jfu (0 : Int32) M v1 M2 hm3 ?_
  refine j_aload_n 0 (pc' := 35) hC dX6_note_34 rfl rfl ?_
  refine j_dup (pc' := 36) hC dX6_note_35 rfl rfl ?_
  refine j_geti' (pc' := 39) hC dX6_note_36 rfl fi_X6_162 gm0 ?_
  refine j_iconst (v := 1) (pc' := 40) hC dX6_note_39 rfl rfl ?_
  refine j_iadd (pc' := 41) hC dX6_note_40 rfl ?_
  obtain ⟨M4, eM4, h⟩ := jlet_s h
  refine j_puti' (pc' := 44) hC dX6_note_41 rfl fp_X6_162 gm0 eM4 ?_
  have q8 := jinj1 h
  subst q8
  exact j_vret hC dX6_note_44
theorem t_X6_day (l : Launch) (E : jE) {M : jM} {r : Int32} {M' : jM} (h : f_X6_day M = some (r, M')) : jCi l yX6_day cX6_day 1 (some .int) 1 21 E RM GM (fun a _ => [.ref (a 0)]) M r M' := by
  refine jCi_of (own := RX6) (by decide) rfl (fun _ _ => Nat.le_of_ble_eq_true rfl) ?_
  intro Γ hC
  show jJ Γ GM RM 0 [(0, .ref (jad Γ 0))] [] M (jQi Γ RM GM r M')
  unfold f_X6_day at h
  refine j_aload_n 0 (pc' := 1) hC dX6_day_0 rfl rfl ?_
  refine j_geti' (pc' := 4) hC dX6_day_1 rfl fi_X6_156 gm0 ?_
  refine j_if_ne (tgt := 10) (pc' := 7) hC dX6_day_4 (by decide) rfl (fun c1 => ?_) (fun c1 => ?_)
  · have h := jit_f c1 h
    refine j_aload_n 0 (pc' := 11) hC dX6_day_10 rfl rfl ?_
    refine j_geti' (pc' := 14) hC dX6_day_11 rfl fi_X6_162 gm0 ?_
    refine j_bipush (v := 40) (pc' := 16) hC dX6_day_14 rfl rfl ?_
    refine j_icmp_ne (tgt := 22) (pc' := 19) hC dX6_day_16 (by decide) rfl (fun c2 => ?_) (fun c2 => ?_)
    · have h := jit_f c2 h
      refine j_aload_n 0 (pc' := 23) hC dX6_day_22 rfl rfl ?_
      obtain ⟨M3, hc4, h⟩ := jb1_s h
      refine j_callVv [] (pc' := 26) hC dX6_day_23 rfl (t_X6_note _ _ hc4) gm0 vcl6 cv_X6_223 ⟨⟨Nat.le_of_ble_eq_true rfl, Nat.le_of_ble_eq_true rfl⟩, rfl, Nat.le_of_ble_eq_true rfl⟩ rfl rfl ?_
      refine j_aload_n 0 (pc' := 27) hC dX6_day_26 rfl rfl ?_
      refine j_getr' (o2 := 12) (pc' := 30) hC dX6_day_27 rfl fi_X6_43 gm0 rfl ?_
      refine j_iconst (v := 0) (pc' := 31) hC dX6_day_30 rfl rfl ?_
      refine j_dup2 (pc' := 32) hC dX6_day_31 rfl rfl rfl ?_
      refine j_iald (pc' := 33) hC dX6_day_32 rfl gm12 (by decide) ?_
      refine j_iconst (v := 1) (pc' := 34) hC dX6_day_33 rfl rfl ?_
      refine j_iadd (pc' := 35) hC dX6_day_34 rfl ?_
      obtain ⟨M5, eM5, h⟩ := jlet_s h
      refine j_iast' (pc' := 36) hC dX6_day_35 rfl gm12 (by decide) eM5 ?_
      refine j_aload_n 0 (pc' := 37) hC dX6_day_36 rfl rfl ?_
      refine j_getr' (o2 := 12) (pc' := 40) hC dX6_day_37 rfl fi_X6_43 gm0 rfl ?_
      refine j_iconst (v := 0) (pc' := 41) hC dX6_day_40 rfl rfl ?_
      refine j_iald (pc' := 42) hC dX6_day_41 rfl gm12 (by decide) ?_
      obtain ⟨q0, q1⟩ := jinj2 h
      subst q0
      subst q1
      exact j_iret hC dX6_day_42
    · have h := jit_t c2 h
      refine j_bipush (v := -2) (pc' := 21) hC dX6_day_19 rfl rfl ?_
      obtain ⟨q0, q1⟩ := jinj2 h
      subst q0
      subst q1
      exact j_iret hC dX6_day_21
  · have h := jit_t c1 h
    refine j_bipush (v := -4) (pc' := 9) hC dX6_day_7 rfl rfl ?_
    obtain ⟨q0, q1⟩ := jinj2 h
    subst q0
    subst q1
    exact j_iret hC dX6_day_9
theorem t_X6_isOnShelf (l : Launch) (E : jE) {a1 : Int32} {M : jM} {r : Int32} (h : f_X6_isOnShelf a1 M = some r) : jCi l yX6_isOnShelf cX6_isOnShelf 2 (some .boolean) 2 44 E RM GM (fun a _ => [.ref (a 0), .int a1]) M r M := by
  refine jCi_of (own := RX6) (by decide) rfl (fun _ _ => Nat.le_of_ble_eq_true rfl) ?_
  intro Γ hC
  show jJ Γ GM RM 0 [(0, .ref (jad Γ 0)), (1, .int a1)] [] M (jQi Γ RM GM r M)
  unfold f_X6_isOnShelf at h
  refine j_aload_n 0 (pc' := 1) hC dX6_isOnShelf_0 rfl rfl ?_
  refine j_aload_n 0 (pc' := 2) hC dX6_isOnShelf_1 rfl rfl ?_
  refine j_getr' (o2 := 12) (pc' := 5) hC dX6_isOnShelf_2 rfl fi_X6_43 gm0 rfl ?_
  refine j_iconst (v := 0) (pc' := 6) hC dX6_isOnShelf_5 rfl rfl ?_
  refine j_iald (pc' := 7) hC dX6_isOnShelf_6 rfl gm12 (by decide) ?_
  obtain ⟨r1, hc2, h⟩ := jb1_s h
  refine j_callVi [.int (gi M 12 (0 : Int32).toNatClampNeg)] (pc' := 10) hC dX6_isOnShelf_7 rfl (t_X6_shelfOn _ _ hc2) gm0 vcl6 cv_X6_213 ⟨⟨Nat.le_of_ble_eq_true rfl, Nat.le_of_ble_eq_true rfl⟩, rfl, Nat.le_of_ble_eq_true rfl⟩ rfl rfl ?_
  refine j_iload_n 1 (pc' := 11) hC dX6_isOnShelf_10 rfl rfl ?_
  obtain ⟨r3, hc4, h⟩ := jb1_s h
  refine j_callSi [.int r1, .int a1] (pc' := 14) hC dX6_isOnShelf_11 rfl (t_X6_has _ _ hc4) cs_X6_136 ⟨⟨Nat.le_of_ble_eq_true rfl, Nat.le_of_ble_eq_true rfl⟩, rfl, Nat.le_of_ble_eq_true rfl⟩ rfl rfl ?_
  obtain ⟨g5, h⟩ := jg_s h
  have q8 := jinj1 h
  subst q8
  exact j_zret hC dX6_isOnShelf_14 (of_decide_eq_true g5)
theorem t_X6_openNow (l : Launch) (E : jE) {a1 : Int32} {a2 : Int32} {M : jM} {M' : jM} (h : f_X6_openNow a1 a2 M = some M') : jCv l yX6_openNow cX6_openNow 3 (none) 1 21 E RM GM (fun a _ => [.ref (a 0), .int a1, .int a2]) M M' := by
  refine jCv_of (own := RX6) (by decide) rfl (fun _ _ => Nat.le_of_ble_eq_true rfl) ?_
  intro Γ hC
  show jJ Γ GM RM 0 [(0, .ref (jad Γ 0)), (1, .int a1), (2, .int a2)] [] M (jQv Γ RM GM M')
  unfold f_X6_openNow at h
  refine j_aload_n 0 (pc' := 1) hC dX6_openNow_0 rfl rfl ?_
  obtain ⟨M1, hc2, h⟩ := jb1_s h
  refine j_callVv [] (pc' := 4) hC dX6_openNow_1 rfl (t_X6_note _ _ hc2) gm0 vcl6 cv_X6_223 ⟨⟨Nat.le_of_ble_eq_true rfl, Nat.le_of_ble_eq_true rfl⟩, rfl, Nat.le_of_ble_eq_true rfl⟩ rfl rfl ?_
  refine j_aload_n 0 (pc' := 5) hC dX6_openNow_4 rfl rfl ?_
  refine j_getr' (o2 := 12) (pc' := 8) hC dX6_openNow_5 rfl fi_X6_43 gm0 rfl ?_
  refine j_iconst (v := 1) (pc' := 9) hC dX6_openNow_8 rfl rfl ?_
  refine j_dup2 (pc' := 10) hC dX6_openNow_9 rfl rfl rfl ?_
  refine j_iald (pc' := 11) hC dX6_openNow_10 rfl gm12 (by decide) ?_
  refine j_iconst (v := 1) (pc' := 12) hC dX6_openNow_11 rfl rfl ?_
  refine j_iload_n 1 (pc' := 13) hC dX6_openNow_12 rfl rfl ?_
  refine j_ishl (pc' := 14) hC dX6_openNow_13 rfl ?_
  refine j_ior (pc' := 15) hC dX6_openNow_14 rfl ?_
  obtain ⟨M3, eM3, h⟩ := jlet_s h
  refine j_iast' (pc' := 16) hC dX6_openNow_15 rfl gm12 (by decide) eM3 ?_
  refine j_aload_n 0 (pc' := 17) hC dX6_openNow_16 rfl rfl ?_
  refine j_getr' (o2 := 12) (pc' := 20) hC dX6_openNow_17 rfl fi_X6_43 gm0 rfl ?_
  refine j_iconst (v := 5) (pc' := 21) hC dX6_openNow_20 rfl rfl ?_
  refine j_iload_n 1 (pc' := 22) hC dX6_openNow_21 rfl rfl ?_
  refine j_iadd (pc' := 23) hC dX6_openNow_22 rfl ?_
  refine j_iload_n 2 (pc' := 24) hC dX6_openNow_23 rfl rfl ?_
  obtain ⟨g4, h⟩ := jg_s h
  obtain ⟨M5, eM5, h⟩ := jlet_s h
  refine j_iast' (pc' := 25) hC dX6_openNow_24 rfl gm12 g4 eM5 ?_
  refine j_aload_n 0 (pc' := 26) hC dX6_openNow_25 rfl rfl ?_
  refine j_getr' (o2 := 12) (pc' := 29) hC dX6_openNow_26 rfl fi_X6_43 gm0 rfl ?_
  refine j_iconst (v := 3) (pc' := 30) hC dX6_openNow_29 rfl rfl ?_
  refine j_dup2 (pc' := 31) hC dX6_openNow_30 rfl rfl rfl ?_
  refine j_iald (pc' := 32) hC dX6_openNow_31 rfl gm12 (by decide) ?_
  refine j_iload_n 2 (pc' := 33) hC dX6_openNow_32 rfl rfl ?_
  obtain ⟨v7, hm9, h⟩ := jlet_s h
  have K8 : jJ Γ GM RM 43 [(0, .ref (jad Γ 0)), (1, .int a1), (2, .int a2)] [.int v7, .int (gi M5 12 (3 : Int32).toNatClampNeg), .int (3 : Int32), .ref (jad Γ 12)] M5 (jQv Γ RM GM M') := by
    refine j_ior (pc' := 44) hC dX6_openNow_43 rfl ?_
    obtain ⟨M11, eM11, h⟩ := jlet_s h
    refine j_iast' (pc' := 45) hC dX6_openNow_44 rfl gm12 (by decide) eM11 ?_
    refine j_aload_n 0 (pc' := 46) hC dX6_openNow_45 rfl rfl ?_
    refine j_getr' (o2 := 12) (pc' := 49) hC dX6_openNow_46 rfl fi_X6_43 gm0 rfl ?_
    refine j_iconst (v := 4) (pc' := 50) hC dX6_openNow_49 rfl rfl ?_
    refine j_iload_n 2 (pc' := 51) hC dX6_openNow_50 rfl rfl ?_
    obtain ⟨v17, hm19, h⟩ := jb1_s h
    have K18 : jJ Γ GM RM 79 [(0, .ref (jad Γ 0)), (1, .int a1), (2, .int a2)] [.int v17, .int (4 : Int32), .ref (jad Γ 12)] M11 (jQv Γ RM GM M') := by
      obtain ⟨M25, eM25, h⟩ := jlet_s h
      refine j_iast' (pc' := 80) hC dX6_openNow_79 rfl gm12 (by decide) eM25 ?_
      have q8 := jinj1 h
      subst q8
      exact j_vret hC dX6_openNow_80
    refine j_if_lt (tgt := 71) (pc' := 54) hC dX6_openNow_51 (by decide) rfl (fun c20 => ?_) (fun c20 => ?_)
    · have hm19 := jit_t c20 hm19
      refine j_aload_n 0 (pc' := 72) hC dX6_openNow_71 rfl rfl ?_
      refine j_getr' (o2 := 12) (pc' := 75) hC dX6_openNow_72 rfl fi_X6_43 gm0 rfl ?_
      refine j_iconst (v := 4) (pc' := 76) hC dX6_openNow_75 rfl rfl ?_
      refine j_iald (pc' := 77) hC dX6_openNow_76 rfl gm12 (by decide) ?_
      refine j_iconst (v := 1) (pc' := 78) hC dX6_openNow_77 rfl rfl ?_
      refine j_iadd (pc' := 79) hC dX6_openNow_78 rfl ?_
      have q8 := jinj1 hm19
      subst q8
      exact j_sub [0, 1, 2] rfl K18
    · have hm19 := jit_f c20 hm19
      refine j_aload_n 0 (pc' := 55) hC dX6_openNow_54 rfl rfl ?_
      refine j_getr' (o2 := 5) (pc' := 58) hC dX6_openNow_55 rfl fi_X6_22 gm0 rfl ?_
      refine j_iload_n 2 (pc' := 59) hC dX6_openNow_58 rfl rfl ?_
      obtain ⟨g21, hm19⟩ := jg_s hm19
      refine j_iald (pc' := 60) hC dX6_openNow_59 rfl gm5 g21 ?_
      refine j_iconst (v := 1) (pc' := 61) hC dX6_openNow_60 rfl rfl ?_
      obtain ⟨r22, hc23, hm19⟩ := jb1_s hm19
      refine j_callSi [.int (gi M11 5 a2.toNatClampNeg), .int (1 : Int32)] (pc' := 64) hC dX6_openNow_61 rfl (t_X6_isKind _ _ hc23) cs_X6_195 ⟨⟨Nat.le_of_ble_eq_true rfl, Nat.le_of_ble_eq_true rfl⟩, rfl, Nat.le_of_ble_eq_true rfl⟩ rfl rfl ?_
      refine j_if_eq (tgt := 71) (pc' := 67) hC dX6_openNow_64 (by decide) rfl (fun c24 => ?_) (fun c24 => ?_)
      · have hm19 := jit_t c24 hm19
        refine j_aload_n 0 (pc' := 72) hC dX6_openNow_71 rfl rfl ?_
        refine j_getr' (o2 := 12) (pc' := 75) hC dX6_openNow_72 rfl fi_X6_43 gm0 rfl ?_
        refine j_iconst (v := 4) (pc' := 76) hC dX6_openNow_75 rfl rfl ?_
        refine j_iald (pc' := 77) hC dX6_openNow_76 rfl gm12 (by decide) ?_
        refine j_iconst (v := 1) (pc' := 78) hC dX6_openNow_77 rfl rfl ?_
        refine j_iadd (pc' := 79) hC dX6_openNow_78 rfl ?_
        have q8 := jinj1 hm19
        subst q8
        exact j_sub [0, 1, 2] rfl K18
      · have hm19 := jit_f c24 hm19
        refine j_iconst (v := 0) (pc' := 68) hC dX6_openNow_67 rfl rfl ?_
        refine j_goto (tgt := 79) (pc' := 0) hC dX6_openNow_68 (by decide) ?_
        have q8 := jinj1 hm19
        subst q8
        exact j_sub [0, 1, 2] rfl K18
  refine j_if_ge (tgt := 40) (pc' := 36) hC dX6_openNow_33 (by decide) rfl (fun c10 => ?_) (fun c10 => ?_)
  · have hm9 := jit_t c10 hm9
    refine j_iconst (v := 1) (pc' := 41) hC dX6_openNow_40 rfl rfl ?_
    refine j_iload_n 2 (pc' := 42) hC dX6_openNow_41 rfl rfl ?_
    refine j_ishl (pc' := 43) hC dX6_openNow_42 rfl ?_
    subst hm9
    exact j_sub [0, 1, 2] rfl K8
  · have hm9 := jit_f c10 hm9
    refine j_iconst (v := 0) (pc' := 37) hC dX6_openNow_36 rfl rfl ?_
    refine j_goto (tgt := 43) (pc' := 0) hC dX6_openNow_37 (by decide) ?_
    subst hm9
    exact j_sub [0, 1, 2] rfl K8
theorem t_X6_open (l : Launch) (E : jE) {a1 : Int32} {a2 : Int32} {M : jM} {r : Int32} {M' : jM} (h : f_X6_open a1 a2 M = some (r, M')) : jCi l yX6_open cX6_open 3 (some .int) 5 114 E RM GM (fun a _ => [.ref (a 0), .int a1, .int a2]) M r M' := by
  refine jCi_of (own := RX6) (by decide) rfl (fun _ _ => Nat.le_of_ble_eq_true rfl) ?_
  intro Γ hC
  show jJ Γ GM RM 0 [(0, .ref (jad Γ 0)), (1, .int a1), (2, .int a2)] [] M (jQi Γ RM GM r M')
  unfold f_X6_open at h
  refine j_aload_n 0 (pc' := 1) hC dX6_open_0 rfl rfl ?_
  refine j_iload_n 1 (pc' := 2) hC dX6_open_1 rfl rfl ?_
  obtain ⟨r1, hc2, h⟩ := jb1_s h
  refine j_callVi [.int a1] (pc' := 5) hC dX6_open_2 rfl (t_X6_isHour _ _ hc2) gm0 vcl6 cv_X6_189 ⟨⟨Nat.le_of_ble_eq_true rfl, Nat.le_of_ble_eq_true rfl⟩, rfl, Nat.le_of_ble_eq_true rfl⟩ rfl rfl ?_
  refine j_if_eq (tgt := 22) (pc' := 8) hC dX6_open_5 (by decide) rfl (fun c3 => ?_) (fun c3 => ?_)
  · have h := jit_t c3 h
    refine j_iconst (v := -1) (pc' := 23) hC dX6_open_22 rfl rfl ?_
    obtain ⟨q0, q1⟩ := jinj2 h
    subst q0
    subst q1
    exact j_iret hC dX6_open_23
  · have h := jit_f c3 h
    refine j_iload_n 2 (pc' := 9) hC dX6_open_8 rfl rfl ?_
    refine j_bipush (v := -9) (pc' := 11) hC dX6_open_9 rfl rfl ?_
    refine j_icmp_eq (tgt := 24) (pc' := 14) hC dX6_open_11 (by decide) rfl (fun c4 => ?_) (fun c4 => ?_)
    · have h := jit_t c4 h
      refine j_aload_n 0 (pc' := 25) hC dX6_open_24 rfl rfl ?_
      refine j_iload_n 1 (pc' := 26) hC dX6_open_25 rfl rfl ?_
      obtain ⟨r5, hc6, h⟩ := jb1_s h
      refine j_callVi [.int a1] (pc' := 29) hC dX6_open_26 rfl (t_X6_isOnShelf _ _ hc6) gm0 vcl6 cv_X6_226 ⟨⟨Nat.le_of_ble_eq_true rfl, Nat.le_of_ble_eq_true rfl⟩, rfl, Nat.le_of_ble_eq_true rfl⟩ rfl rfl ?_
      refine j_if_eq (tgt := 45) (pc' := 32) hC dX6_open_29 (by decide) rfl (fun c7 => ?_) (fun c7 => ?_)
      · have h := jit_t c7 h
        refine j_bipush (v := -4) (pc' := 47) hC dX6_open_45 rfl rfl ?_
        obtain ⟨q0, q1⟩ := jinj2 h
        subst q0
        subst q1
        exact j_iret hC dX6_open_47
      · have h := jit_f c7 h
        refine j_iload_n 2 (pc' := 33) hC dX6_open_32 rfl rfl ?_
        refine j_if_lt (tgt := 48) (pc' := 36) hC dX6_open_33 (by decide) rfl (fun c8 => ?_) (fun c8 => ?_)
        · have h := jit_t c8 h
          refine j_aload_n 0 (pc' := 49) hC dX6_open_48 rfl rfl ?_
          refine j_geti' (pc' := 52) hC dX6_open_49 rfl fi_X6_162 gm0 ?_
          refine j_bipush (v := 40) (pc' := 54) hC dX6_open_52 rfl rfl ?_
          refine j_icmp_ne (tgt := 60) (pc' := 57) hC dX6_open_54 (by decide) rfl (fun c9 => ?_) (fun c9 => ?_)
          · have h := jit_f c9 h
            refine j_aload_n 0 (pc' := 61) hC dX6_open_60 rfl rfl ?_
            refine j_iload_n 1 (pc' := 62) hC dX6_open_61 rfl rfl ?_
            refine j_iload_n 2 (pc' := 63) hC dX6_open_62 rfl rfl ?_
            obtain ⟨M10, hc11, h⟩ := jb1_s h
            refine j_callVv [.int a1, .int a2] (pc' := 66) hC dX6_open_63 rfl (t_X6_openNow _ _ hc11) gm0 vcl6 cv_X6_229 ⟨⟨Nat.le_of_ble_eq_true rfl, Nat.le_of_ble_eq_true rfl⟩, rfl, Nat.le_of_ble_eq_true rfl⟩ rfl rfl ?_
            refine j_aload_n 0 (pc' := 67) hC dX6_open_66 rfl rfl ?_
            refine j_getr' (o2 := 12) (pc' := 70) hC dX6_open_67 rfl fi_X6_43 gm0 rfl ?_
            refine j_iconst (v := 3) (pc' := 71) hC dX6_open_70 rfl rfl ?_
            refine j_iald (pc' := 72) hC dX6_open_71 rfl gm12 (by decide) ?_
            obtain ⟨q0, q1⟩ := jinj2 h
            subst q0
            subst q1
            exact j_iret hC dX6_open_72
          · have h := jit_t c9 h
            refine j_bipush (v := -2) (pc' := 59) hC dX6_open_57 rfl rfl ?_
            obtain ⟨q0, q1⟩ := jinj2 h
            subst q0
            subst q1
            exact j_iret hC dX6_open_59
        · have h := jit_f c8 h
          refine j_aload_n 0 (pc' := 37) hC dX6_open_36 rfl rfl ?_
          refine j_iload_n 2 (pc' := 38) hC dX6_open_37 rfl rfl ?_
          refine j_iload_n 1 (pc' := 39) hC dX6_open_38 rfl rfl ?_
          obtain ⟨r12, hc13, h⟩ := jb1_s h
          refine j_callVi [.int a2, .int a1] (pc' := 42) hC dX6_open_39 rfl (t_X6_canNow _ _ hc13) gm0 vcl6 cv_X6_216 ⟨⟨Nat.le_of_ble_eq_true rfl, Nat.le_of_ble_eq_true rfl⟩, rfl, Nat.le_of_ble_eq_true rfl⟩ rfl rfl ?_
          refine j_if_ne (tgt := 48) (pc' := 45) hC dX6_open_42 (by decide) rfl (fun c14 => ?_) (fun c14 => ?_)
          · have h := jit_f c14 h
            refine j_aload_n 0 (pc' := 49) hC dX6_open_48 rfl rfl ?_
            refine j_geti' (pc' := 52) hC dX6_open_49 rfl fi_X6_162 gm0 ?_
            refine j_bipush (v := 40) (pc' := 54) hC dX6_open_52 rfl rfl ?_
            refine j_icmp_ne (tgt := 60) (pc' := 57) hC dX6_open_54 (by decide) rfl (fun c15 => ?_) (fun c15 => ?_)
            · have h := jit_f c15 h
              refine j_aload_n 0 (pc' := 61) hC dX6_open_60 rfl rfl ?_
              refine j_iload_n 1 (pc' := 62) hC dX6_open_61 rfl rfl ?_
              refine j_iload_n 2 (pc' := 63) hC dX6_open_62 rfl rfl ?_
              obtain ⟨M16, hc17, h⟩ := jb1_s h
              refine j_callVv [.int a1, .int a2] (pc' := 66) hC dX6_open_63 rfl (t_X6_openNow _ _ hc17) gm0 vcl6 cv_X6_229 ⟨⟨Nat.le_of_ble_eq_true rfl, Nat.le_of_ble_eq_true rfl⟩, rfl, Nat.le_of_ble_eq_true rfl⟩ rfl rfl ?_
              refine j_aload_n 0 (pc' := 67) hC dX6_open_66 rfl rfl ?_
              refine j_getr' (o2 := 12) (pc' := 70) hC dX6_open_67 rfl fi_X6_43 gm0 rfl ?_
              refine j_iconst (v := 3) (pc' := 71) hC dX6_open_70 rfl rfl ?_
              refine j_iald (pc' := 72) hC dX6_open_71 rfl gm12 (by decide) ?_
              obtain ⟨q0, q1⟩ := jinj2 h
              subst q0
              subst q1
              exact j_iret hC dX6_open_72
            · have h := jit_t c15 h
              refine j_bipush (v := -2) (pc' := 59) hC dX6_open_57 rfl rfl ?_
              obtain ⟨q0, q1⟩ := jinj2 h
              subst q0
              subst q1
              exact j_iret hC dX6_open_59
          · have h := jit_t c14 h
            refine j_bipush (v := -4) (pc' := 47) hC dX6_open_45 rfl rfl ?_
            obtain ⟨q0, q1⟩ := jinj2 h
            subst q0
            subst q1
            exact j_iret hC dX6_open_47
    · have h := jit_f c4 h
      refine j_aload_n 0 (pc' := 15) hC dX6_open_14 rfl rfl ?_
      refine j_iload_n 2 (pc' := 16) hC dX6_open_15 rfl rfl ?_
      obtain ⟨r18, hc19, h⟩ := jb1_s h
      refine j_callVi [.int a2] (pc' := 19) hC dX6_open_16 rfl (t_X6_isDeed _ _ hc19) gm0 vcl6 cv_X6_168 ⟨⟨Nat.le_of_ble_eq_true rfl, Nat.le_of_ble_eq_true rfl⟩, rfl, Nat.le_of_ble_eq_true rfl⟩ rfl rfl ?_
      refine j_if_ne (tgt := 24) (pc' := 22) hC dX6_open_19 (by decide) rfl (fun c20 => ?_) (fun c20 => ?_)
      · have h := jit_f c20 h
        refine j_aload_n 0 (pc' := 25) hC dX6_open_24 rfl rfl ?_
        refine j_iload_n 1 (pc' := 26) hC dX6_open_25 rfl rfl ?_
        obtain ⟨r21, hc22, h⟩ := jb1_s h
        refine j_callVi [.int a1] (pc' := 29) hC dX6_open_26 rfl (t_X6_isOnShelf _ _ hc22) gm0 vcl6 cv_X6_226 ⟨⟨Nat.le_of_ble_eq_true rfl, Nat.le_of_ble_eq_true rfl⟩, rfl, Nat.le_of_ble_eq_true rfl⟩ rfl rfl ?_
        refine j_if_eq (tgt := 45) (pc' := 32) hC dX6_open_29 (by decide) rfl (fun c23 => ?_) (fun c23 => ?_)
        · have h := jit_t c23 h
          refine j_bipush (v := -4) (pc' := 47) hC dX6_open_45 rfl rfl ?_
          obtain ⟨q0, q1⟩ := jinj2 h
          subst q0
          subst q1
          exact j_iret hC dX6_open_47
        · have h := jit_f c23 h
          refine j_iload_n 2 (pc' := 33) hC dX6_open_32 rfl rfl ?_
          refine j_if_lt (tgt := 48) (pc' := 36) hC dX6_open_33 (by decide) rfl (fun c24 => ?_) (fun c24 => ?_)
          · have h := jit_t c24 h
            refine j_aload_n 0 (pc' := 49) hC dX6_open_48 rfl rfl ?_
            refine j_geti' (pc' := 52) hC dX6_open_49 rfl fi_X6_162 gm0 ?_
            refine j_bipush (v := 40) (pc' := 54) hC dX6_open_52 rfl rfl ?_
            refine j_icmp_ne (tgt := 60) (pc' := 57) hC dX6_open_54 (by decide) rfl (fun c25 => ?_) (fun c25 => ?_)
            · have h := jit_f c25 h
              refine j_aload_n 0 (pc' := 61) hC dX6_open_60 rfl rfl ?_
              refine j_iload_n 1 (pc' := 62) hC dX6_open_61 rfl rfl ?_
              refine j_iload_n 2 (pc' := 63) hC dX6_open_62 rfl rfl ?_
              obtain ⟨M26, hc27, h⟩ := jb1_s h
              refine j_callVv [.int a1, .int a2] (pc' := 66) hC dX6_open_63 rfl (t_X6_openNow _ _ hc27) gm0 vcl6 cv_X6_229 ⟨⟨Nat.le_of_ble_eq_true rfl, Nat.le_of_ble_eq_true rfl⟩, rfl, Nat.le_of_ble_eq_true rfl⟩ rfl rfl ?_
              refine j_aload_n 0 (pc' := 67) hC dX6_open_66 rfl rfl ?_
              refine j_getr' (o2 := 12) (pc' := 70) hC dX6_open_67 rfl fi_X6_43 gm0 rfl ?_
              refine j_iconst (v := 3) (pc' := 71) hC dX6_open_70 rfl rfl ?_
              refine j_iald (pc' := 72) hC dX6_open_71 rfl gm12 (by decide) ?_
              obtain ⟨q0, q1⟩ := jinj2 h
              subst q0
              subst q1
              exact j_iret hC dX6_open_72
            · have h := jit_t c25 h
              refine j_bipush (v := -2) (pc' := 59) hC dX6_open_57 rfl rfl ?_
              obtain ⟨q0, q1⟩ := jinj2 h
              subst q0
              subst q1
              exact j_iret hC dX6_open_59
          · have h := jit_f c24 h
            refine j_aload_n 0 (pc' := 37) hC dX6_open_36 rfl rfl ?_
            refine j_iload_n 2 (pc' := 38) hC dX6_open_37 rfl rfl ?_
            refine j_iload_n 1 (pc' := 39) hC dX6_open_38 rfl rfl ?_
            obtain ⟨r28, hc29, h⟩ := jb1_s h
            refine j_callVi [.int a2, .int a1] (pc' := 42) hC dX6_open_39 rfl (t_X6_canNow _ _ hc29) gm0 vcl6 cv_X6_216 ⟨⟨Nat.le_of_ble_eq_true rfl, Nat.le_of_ble_eq_true rfl⟩, rfl, Nat.le_of_ble_eq_true rfl⟩ rfl rfl ?_
            refine j_if_ne (tgt := 48) (pc' := 45) hC dX6_open_42 (by decide) rfl (fun c30 => ?_) (fun c30 => ?_)
            · have h := jit_f c30 h
              refine j_aload_n 0 (pc' := 49) hC dX6_open_48 rfl rfl ?_
              refine j_geti' (pc' := 52) hC dX6_open_49 rfl fi_X6_162 gm0 ?_
              refine j_bipush (v := 40) (pc' := 54) hC dX6_open_52 rfl rfl ?_
              refine j_icmp_ne (tgt := 60) (pc' := 57) hC dX6_open_54 (by decide) rfl (fun c31 => ?_) (fun c31 => ?_)
              · have h := jit_f c31 h
                refine j_aload_n 0 (pc' := 61) hC dX6_open_60 rfl rfl ?_
                refine j_iload_n 1 (pc' := 62) hC dX6_open_61 rfl rfl ?_
                refine j_iload_n 2 (pc' := 63) hC dX6_open_62 rfl rfl ?_
                obtain ⟨M32, hc33, h⟩ := jb1_s h
                refine j_callVv [.int a1, .int a2] (pc' := 66) hC dX6_open_63 rfl (t_X6_openNow _ _ hc33) gm0 vcl6 cv_X6_229 ⟨⟨Nat.le_of_ble_eq_true rfl, Nat.le_of_ble_eq_true rfl⟩, rfl, Nat.le_of_ble_eq_true rfl⟩ rfl rfl ?_
                refine j_aload_n 0 (pc' := 67) hC dX6_open_66 rfl rfl ?_
                refine j_getr' (o2 := 12) (pc' := 70) hC dX6_open_67 rfl fi_X6_43 gm0 rfl ?_
                refine j_iconst (v := 3) (pc' := 71) hC dX6_open_70 rfl rfl ?_
                refine j_iald (pc' := 72) hC dX6_open_71 rfl gm12 (by decide) ?_
                obtain ⟨q0, q1⟩ := jinj2 h
                subst q0
                subst q1
                exact j_iret hC dX6_open_72
              · have h := jit_t c31 h
                refine j_bipush (v := -2) (pc' := 59) hC dX6_open_57 rfl rfl ?_
                obtain ⟨q0, q1⟩ := jinj2 h
                subst q0
                subst q1
                exact j_iret hC dX6_open_59
            · have h := jit_t c30 h
              refine j_bipush (v := -4) (pc' := 47) hC dX6_open_45 rfl rfl ?_
              obtain ⟨q0, q1⟩ := jinj2 h
              subst q0
              subst q1
              exact j_iret hC dX6_open_47
      · have h := jit_t c20 h
        refine j_iconst (v := -1) (pc' := 23) hC dX6_open_22 rfl rfl ?_
        obtain ⟨q0, q1⟩ := jinj2 h
        subst q0
        subst q1
        exact j_iret hC dX6_open_23
