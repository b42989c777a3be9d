theorem t_X0_whereIs (l : Launch) (E : jE) {a1 : Int32} {M : jM} {r : Int32} (h : f_X0_whereIs a1 M = some r) : jCi l yX0_whereIs cX0_whereIs 2 (some .int) 1 21 E RX GX (fun a _ => [.ref (a 39), .int a1]) M r M := by
  refine jCi_of (own := RX0) (by decide) rfl (fun _ _ => Nat.le_of_ble_eq_true rfl) ?_
  intro Γ hC
  show jJ Γ GX RX 0 [(0, .ref (jad Γ 39)), (1, .int a1)] [] M (jQi Γ RX GX r M)
  unfold f_X0_whereIs at h
  refine j_aload_n 0 (pc' := 1) hC dX0_whereIs_0 rfl rfl ?_
  refine j_geti' (pc' := 4) hC dX0_whereIs_1 rfl fi_X0_34 gx39 ?_
  refine j_iload_n 1 (pc' := 5) hC dX0_whereIs_4 rfl rfl ?_
  obtain ⟨r1, hc2, h⟩ := jb1_s h
  refine j_callNi [.int (gi M 39 8), .int a1] (pc' := 8) hC dX0_whereIs_5 rfl (t_X5_isIn _ _ hc2) cn_X0_113 ⟨⟨Nat.le_of_ble_eq_true rfl, Nat.le_of_ble_eq_true rfl⟩, rfl, Nat.le_of_ble_eq_true rfl⟩ rfl rfl ?_
  refine j_if_eq (tgt := 13) (pc' := 11) hC dX0_whereIs_8 (by decide) rfl (fun c3 => ?_) (fun c3 => ?_)
  · have h := jit_t c3 h
    refine j_aload_n 0 (pc' := 14) hC dX0_whereIs_13 rfl rfl ?_
    refine j_geti' (pc' := 17) hC dX0_whereIs_14 rfl fi_X0_37 gx39 ?_
    refine j_iload_n 1 (pc' := 18) hC dX0_whereIs_17 rfl rfl ?_
    obtain ⟨r4, hc5, h⟩ := jb1_s h
    refine j_callNi [.int (gi M 39 9), .int a1] (pc' := 21) hC dX0_whereIs_18 rfl (t_X5_isIn _ _ hc5) cn_X0_113 ⟨⟨Nat.le_of_ble_eq_true rfl, Nat.le_of_ble_eq_true rfl⟩, rfl, Nat.le_of_ble_eq_true rfl⟩ rfl rfl ?_
    refine j_if_eq (tgt := 26) (pc' := 24) hC dX0_whereIs_21 (by decide) rfl (fun c6 => ?_) (fun c6 => ?_)
    · have h := jit_t c6 h
      refine j_aload_n 0 (pc' := 27) hC dX0_whereIs_26 rfl rfl ?_
      refine j_iload_n 1 (pc' := 28) hC dX0_whereIs_27 rfl rfl ?_
      obtain ⟨r7, hc8, h⟩ := jb1_s h
      refine j_callVi [.int a1] (pc' := 31) hC dX0_whereIs_28 rfl (t_X0_comingDay _ _ hc8) gx39 vcl0 cv_X0_102 ⟨⟨Nat.le_of_ble_eq_true rfl, Nat.le_of_ble_eq_true rfl⟩, rfl, Nat.le_of_ble_eq_true rfl⟩ rfl rfl ?_
      refine j_aload_n 0 (pc' := 32) hC dX0_whereIs_31 rfl rfl ?_
      refine j_geti' (pc' := 35) hC dX0_whereIs_32 rfl fi_X0_31 gx39 ?_
      refine j_icmp_gt (tgt := 42) (pc' := 38) hC dX0_whereIs_35 (by decide) rfl (fun c9 => ?_) (fun c9 => ?_)
      · have h := jit_t c9 h
        refine j_iconst (v := 0) (pc' := 43) hC dX0_whereIs_42 rfl rfl ?_
        have q8 := jinj1 h
        subst q8
        exact j_iret hC dX0_whereIs_43
      · have h := jit_f c9 h
        refine j_iconst (v := 1) (pc' := 39) hC dX0_whereIs_38 rfl rfl ?_
        refine j_goto (tgt := 43) (pc' := 0) hC dX0_whereIs_39 (by decide) ?_
        have q8 := jinj1 h
        subst q8
        exact j_iret hC dX0_whereIs_43
    · have h := jit_f c6 h
      refine j_iconst (v := 3) (pc' := 25) hC dX0_whereIs_24 rfl rfl ?_
      have q8 := jinj1 h
      subst q8
      exact j_iret hC dX0_whereIs_25
  · have h := jit_f c3 h
    refine j_iconst (v := 2) (pc' := 12) hC dX0_whereIs_11 rfl rfl ?_
    have q8 := jinj1 h
    subst q8
    exact j_iret hC dX0_whereIs_12
theorem t_X5_hourFact (l : Launch) (E : jE) {a1 : Int32} {a2 : Int32} {M : jM} {r : Int32} (h : f_X5_hourFact a1 a2 M = some r) : jCi l yX5_hourFact cX5_hourFact 3 (some .int) 2 42 E RX GX (fun a _ => [.ref (a 0), .int a1, .int a2]) M r M := by
  refine jCi_of (own := RX5) (by decide) rfl (fun _ _ => Nat.le_of_ble_eq_true rfl) ?_
  intro Γ hC
  show jJ Γ GX RX 0 [(0, .ref (jad Γ 0)), (1, .int a1), (2, .int a2)] [] M (jQi Γ RX GX r M)
  unfold f_X5_hourFact at h
  refine j_iload_n 2 (pc' := 1) hC dX5_hourFact_0 rfl rfl ?_
  by_cases c10 : a2 = 0
  · have h := jit_t c10 h
    refine j_tab (tgt := 32) (pc' := 0) hC dX5_hourFact_1 c10 (by decide) (by decide) rfl (by decide) ?_
    refine j_aload_n 0 (pc' := 33) hC dX5_hourFact_32 rfl rfl ?_
    refine j_getr' (o2 := 29) (pc' := 36) hC dX5_hourFact_33 rfl fi_X5_31 gx0 rfl ?_
    refine j_getr' (o2 := 34) (pc' := 39) hC dX5_hourFact_36 rfl fi_X5_328 gx29 rfl ?_
    refine j_iload_n 1 (pc' := 40) hC dX5_hourFact_39 rfl rfl ?_
    obtain ⟨g1, h⟩ := jg_s h
    refine j_iald (pc' := 41) hC dX5_hourFact_40 rfl gx34 g1 ?_
    have q8 := jinj1 h
    subst q8
    exact j_iret hC dX5_hourFact_41
  · have h := jit_f c10 h
    by_cases c11 : a2 = 1
    · have h := jit_t c11 h
      refine j_tab (tgt := 42) (pc' := 0) hC dX5_hourFact_1 c11 (by decide) (by decide) rfl (by decide) ?_
      refine j_aload_n 0 (pc' := 43) hC dX5_hourFact_42 rfl rfl ?_
      refine j_getr' (o2 := 29) (pc' := 46) hC dX5_hourFact_43 rfl fi_X5_31 gx0 rfl ?_
      refine j_iload_n 1 (pc' := 47) hC dX5_hourFact_46 rfl rfl ?_
      obtain ⟨r2, hc3, h⟩ := jb1_s h
      refine j_callVi [.int a1] (pc' := 50) hC dX5_hourFact_47 rfl (t_X2_isNight _ _ hc3) gx29 vcl2 cv_X5_331 ⟨⟨Nat.le_of_ble_eq_true rfl, Nat.le_of_ble_eq_true rfl⟩, rfl, Nat.le_of_ble_eq_true rfl⟩ rfl rfl ?_
      refine j_if_eq (tgt := 57) (pc' := 53) hC dX5_hourFact_50 (by decide) rfl (fun c4 => ?_) (fun c4 => ?_)
      · have h := jit_t c4 h
        refine j_iconst (v := 0) (pc' := 58) hC dX5_hourFact_57 rfl rfl ?_
        have q8 := jinj1 h
        subst q8
        exact j_iret hC dX5_hourFact_58
      · have h := jit_f c4 h
        refine j_iconst (v := 1) (pc' := 54) hC dX5_hourFact_53 rfl rfl ?_
        refine j_goto (tgt := 58) (pc' := 0) hC dX5_hourFact_54 (by decide) ?_
        have q8 := jinj1 h
        subst q8
        exact j_iret hC dX5_hourFact_58
    · have h := jit_f c11 h
      by_cases c12 : a2 = 2
      · have h := jit_t c12 h
        refine j_tab (tgt := 59) (pc' := 0) hC dX5_hourFact_1 c12 (by decide) (by decide) rfl (by decide) ?_
        refine j_aload_n 0 (pc' := 60) hC dX5_hourFact_59 rfl rfl ?_
        refine j_getr' (o2 := 39) (pc' := 63) hC dX5_hourFact_60 rfl fi_X5_40 gx0 rfl ?_
        refine j_iload_n 1 (pc' := 64) hC dX5_hourFact_63 rfl rfl ?_
        obtain ⟨r5, hc6, h⟩ := jb1_s h
        refine j_callVi [.int a1] (pc' := 67) hC dX5_hourFact_64 rfl (t_X0_comingDay _ _ hc6) gx39 vcl0 cv_X5_231 ⟨⟨Nat.le_of_ble_eq_true rfl, Nat.le_of_ble_eq_true rfl⟩, rfl, Nat.le_of_ble_eq_true rfl⟩ rfl rfl ?_
        have q8 := jinj1 h
        subst q8
        exact j_iret hC dX5_hourFact_67
      · have h := jit_f c12 h
        by_cases c13 : a2 = 3
        · have h := jit_t c13 h
          refine j_tab (tgt := 68) (pc' := 0) hC dX5_hourFact_1 c13 (by decide) (by decide) rfl (by decide) ?_
          refine j_aload_n 0 (pc' := 69) hC dX5_hourFact_68 rfl rfl ?_
          refine j_getr' (o2 := 39) (pc' := 72) hC dX5_hourFact_69 rfl fi_X5_40 gx0 rfl ?_
          refine j_iload_n 1 (pc' := 73) hC dX5_hourFact_72 rfl rfl ?_
          obtain ⟨r7, hc8, h⟩ := jb1_s h
          refine j_callVi [.int a1] (pc' := 76) hC dX5_hourFact_73 rfl (t_X0_whereIs _ _ hc8) gx39 vcl0 cv_X5_203 ⟨⟨Nat.le_of_ble_eq_true rfl, Nat.le_of_ble_eq_true rfl⟩, rfl, Nat.le_of_ble_eq_true rfl⟩ rfl rfl ?_
          have q8 := jinj1 h
          subst q8
          exact j_iret hC dX5_hourFact_76
        · have h := jit_f c13 h
          refine j_tabOut (tgt := 77) (pc' := 0) hC dX5_hourFact_1 (by have n0 := jneI (k := 0) rfl c10; have n1 := jneI (k := 1) rfl c11; have n2 := jneI (k := 2) rfl c12; have n3 := jneI (k := 3) rfl c13; omega) (by decide) ?_
          refine j_aload_n 0 (pc' := 78) hC dX5_hourFact_77 rfl rfl ?_
          refine j_getr' (o2 := 39) (pc' := 81) hC dX5_hourFact_78 rfl fi_X5_40 gx0 rfl ?_
          refine j_getr' (o2 := 44) (pc' := 84) hC dX5_hourFact_81 rfl fi_X5_334 gx39 rfl ?_
          refine j_iload_n 1 (pc' := 85) hC dX5_hourFact_84 rfl rfl ?_
          obtain ⟨g9, h⟩ := jg_s h
          refine j_iald (pc' := 86) hC dX5_hourFact_85 rfl gx44 g9 ?_
          have q8 := jinj1 h
          subst q8
          exact j_iret hC dX5_hourFact_86
theorem t_X5_hour (l : Launch) (E : jE) {a1 : Int32} {a2 : Int32} {M : jM} {r : Int32} {M' : jM} (h : f_X5_hour a1 a2 M = some (r, M')) : jCi l yX5_hour cX5_hour 3 (some .int) 3 64 E RX GX (fun a _ => [.ref (a 0), .int a1, .int a2]) M r M' := by
  refine jCi_of (own := RX5) (by decide) rfl (fun _ _ => Nat.le_of_ble_eq_true rfl) ?_
  intro Γ hC
  show jJ Γ GX RX 0 [(0, .ref (jad Γ 0)), (1, .int a1), (2, .int a2)] [] M (jQi Γ RX GX r M')
  unfold f_X5_hour at h
  refine j_aload_n 0 (pc' := 1) hC dX5_hour_0 rfl rfl ?_
  refine j_getr' (o2 := 29) (pc' := 4) hC dX5_hour_1 rfl fi_X5_31 gx0 rfl ?_
  refine j_iload_n 1 (pc' := 5) hC dX5_hour_4 rfl rfl ?_
  obtain ⟨r1, hc2, h⟩ := jb1_s h
  refine j_callVi [.int a1] (pc' := 8) hC dX5_hour_5 rfl (t_X2_hasHour _ _ hc2) gx29 vcl2 cv_X5_150 ⟨⟨Nat.le_of_ble_eq_true rfl, Nat.le_of_ble_eq_true rfl⟩, rfl, Nat.le_of_ble_eq_true rfl⟩ rfl rfl ?_
  refine j_if_eq (tgt := 20) (pc' := 11) hC dX5_hour_8 (by decide) rfl (fun c3 => ?_) (fun c3 => ?_)
  · have h := jit_t c3 h
    refine j_iconst (v := -1) (pc' := 21) hC dX5_hour_20 rfl rfl ?_
    obtain ⟨q0, q1⟩ := jinj2 h
    subst q0
    subst q1
    exact j_iret hC dX5_hour_21
  · have h := jit_f c3 h
    refine j_iload_n 2 (pc' := 12) hC dX5_hour_11 rfl rfl ?_
    refine j_if_lt (tgt := 20) (pc' := 15) hC dX5_hour_12 (by decide) rfl (fun c4 => ?_) (fun c4 => ?_)
    · have h := jit_t c4 h
      refine j_iconst (v := -1) (pc' := 21) hC dX5_hour_20 rfl rfl ?_
      obtain ⟨q0, q1⟩ := jinj2 h
      subst q0
      subst q1
      exact j_iret hC dX5_hour_21
    · have h := jit_f c4 h
      refine j_iload_n 2 (pc' := 16) hC dX5_hour_15 rfl rfl ?_
      refine j_iconst (v := 5) (pc' := 17) hC dX5_hour_16 rfl rfl ?_
      refine j_icmp_lt (tgt := 22) (pc' := 20) hC dX5_hour_17 (by decide) rfl (fun c5 => ?_) (fun c5 => ?_)
      · have h := jit_t c5 h
        refine j_aload_n 0 (pc' := 23) hC dX5_hour_22 rfl rfl ?_
        refine j_aload_n 0 (pc' := 24) hC dX5_hour_23 rfl rfl ?_
        refine j_iload_n 1 (pc' := 25) hC dX5_hour_24 rfl rfl ?_
        refine j_iload_n 2 (pc' := 26) hC dX5_hour_25 rfl rfl ?_
        obtain ⟨r6, hc7, h⟩ := jb1_s h
        refine j_callVi [.int a1, .int a2] (pc' := 29) hC dX5_hour_26 rfl (t_X5_hourFact _ _ hc7) gx0 vcl5 cv_X5_153 ⟨⟨Nat.le_of_ble_eq_true rfl, Nat.le_of_ble_eq_true rfl⟩, rfl, Nat.le_of_ble_eq_true rfl⟩ rfl rfl ?_
        obtain ⟨r8, M9, hc10, h⟩ := jb2_s h
        refine j_callVi [.int r6] (pc' := 32) hC dX5_hour_29 rfl (t_X5_tell _ _ hc10) gx0 vcl5 cv_X5_97 ⟨⟨Nat.le_of_ble_eq_true rfl, Nat.le_of_ble_eq_true rfl⟩, rfl, Nat.le_of_ble_eq_true rfl⟩ rfl rfl ?_
        obtain ⟨q0, q1⟩ := jinj2 h
        subst q0
        subst q1
        exact j_iret hC dX5_hour_32
      · have h := jit_f c5 h
        refine j_iconst (v := -1) (pc' := 21) hC dX5_hour_20 rfl rfl ?_
        obtain ⟨q0, q1⟩ := jinj2 h
        subst q0
        subst q1
        exact j_iret hC dX5_hour_21
theorem t_X2_isOfKind (l : Launch) (E : jE) {a1 : Int32} {a2 : Int32} {M : jM} {r : Int32} (h : f_X2_isOfKind a1 a2 M = some r) : jCi l yX2_isOfKind cX2_isOfKind 4 (some .boolean) 0 0 E RX GX (fun a _ => [.ref (a 29), .int a1, .int a2]) M r M := by
  refine jCi_of (own := RX2) (by decide) rfl (fun _ _ => Nat.le_of_ble_eq_true rfl) ?_
  intro Γ hC
  show jJ Γ GX RX 0 [(0, .ref (jad Γ 29)), (1, .int a1), (2, .int a2)] [] M (jQi Γ RX GX r M)
  unfold f_X2_isOfKind at h
  refine j_aload_n 0 (pc' := 1) hC dX2_isOfKind_0 rfl rfl ?_
  refine j_getr' (o2 := 30) (pc' := 4) hC dX2_isOfKind_1 rfl fi_X2_18 gx29 rfl ?_
  refine j_iload_n 1 (pc' := 5) hC dX2_isOfKind_4 rfl rfl ?_
  obtain ⟨g1, h⟩ := jg_s h
  refine j_iald (pc' := 6) hC dX2_isOfKind_5 rfl gx30 g1 ?_
  obtain ⟨v2, ev2, h⟩ := jlet_s h
  refine j_istore_n (pc' := 7) hC dX2_isOfKind_6 rfl ev2 (by decide) rfl ?_
  refine j_iload_n 0 (pc' := 8) hC dX2_isOfKind_7 rfl rfl ?_
  refine j_iload_n 3 (pc' := 9) hC dX2_isOfKind_8 rfl rfl ?_
  refine j_icmp_eq (tgt := 32) (pc' := 12) hC dX2_isOfKind_9 (by decide) rfl (fun c3 => ?_) (fun c3 => ?_)
  · have h := jit_t c3 h
    refine j_iconst (v := 1) (pc' := 33) hC dX2_isOfKind_32 rfl rfl ?_
    refine j_goto (tgt := 37) (pc' := 0) hC dX2_isOfKind_33 (by decide) ?_
    have q8 := jinj1 h
    subst q8
    exact j_zret hC dX2_isOfKind_37 (by decide)
  · have h := jit_f c3 h
    refine j_iload_n 0 (pc' := 13) hC dX2_isOfKind_12 rfl rfl ?_
    refine j_iconst (v := 4) (pc' := 14) hC dX2_isOfKind_13 rfl rfl ?_
    refine j_icmp_ne (tgt := 22) (pc' := 17) hC dX2_isOfKind_14 (by decide) rfl (fun c4 => ?_) (fun c4 => ?_)
    · have h := jit_f c4 h
      refine j_iload_n 0 (pc' := 23) hC dX2_isOfKind_22 rfl rfl ?_
      refine j_iconst (v := 5) (pc' := 24) hC dX2_isOfKind_23 rfl rfl ?_
      refine j_icmp_ne (tgt := 36) (pc' := 27) hC dX2_isOfKind_24 (by decide) rfl (fun c5 => ?_) (fun c5 => ?_)
      · have h := jit_f c5 h
        refine j_iconst (v := 0) (pc' := 37) hC dX2_isOfKind_36 rfl rfl ?_
        have q8 := jinj1 h
        subst q8
        exact j_zret hC dX2_isOfKind_37 (by decide)
      · have h := jit_t c5 h
        refine j_iload_n 3 (pc' := 28) hC dX2_isOfKind_27 rfl rfl ?_
        refine j_iconst (v := 2) (pc' := 29) hC dX2_isOfKind_28 rfl rfl ?_
        refine j_icmp_ne (tgt := 36) (pc' := 32) hC dX2_isOfKind_29 (by decide) rfl (fun c6 => ?_) (fun c6 => ?_)
        · have h := jit_f c6 h
          refine j_iconst (v := 0) (pc' := 37) hC dX2_isOfKind_36 rfl rfl ?_
          have q8 := jinj1 h
          subst q8
          exact j_zret hC dX2_isOfKind_37 (by decide)
        · have h := jit_t c6 h
          refine j_iconst (v := 1) (pc' := 33) hC dX2_isOfKind_32 rfl rfl ?_
          refine j_goto (tgt := 37) (pc' := 0) hC dX2_isOfKind_33 (by decide) ?_
          have q8 := jinj1 h
          subst q8
          exact j_zret hC dX2_isOfKind_37 (by decide)
    · have h := jit_t c4 h
      refine j_iload_n 3 (pc' := 18) hC dX2_isOfKind_17 rfl rfl ?_
      refine j_iconst (v := 1) (pc' := 19) hC dX2_isOfKind_18 rfl rfl ?_
      refine j_icmp_eq (tgt := 32) (pc' := 22) hC dX2_isOfKind_19 (by decide) rfl (fun c7 => ?_) (fun c7 => ?_)
      · have h := jit_t c7 h
        refine j_iconst (v := 1) (pc' := 33) hC dX2_isOfKind_32 rfl rfl ?_
        refine j_goto (tgt := 37) (pc' := 0) hC dX2_isOfKind_33 (by decide) ?_
        have q8 := jinj1 h
        subst q8
        exact j_zret hC dX2_isOfKind_37 (by decide)
      · have h := jit_f c7 h
        refine j_iload_n 0 (pc' := 23) hC dX2_isOfKind_22 rfl rfl ?_
        refine j_iconst (v := 5) (pc' := 24) hC dX2_isOfKind_23 rfl rfl ?_
        refine j_icmp_ne (tgt := 36) (pc' := 27) hC dX2_isOfKind_24 (by decide) rfl (fun c8 => ?_) (fun c8 => ?_)
        · have h := jit_f c8 h
          refine j_iconst (v := 0) (pc' := 37) hC dX2_isOfKind_36 rfl rfl ?_
          have q8 := jinj1 h
          subst q8
          exact j_zret hC dX2_isOfKind_37 (by decide)
        · have h := jit_t c8 h
          refine j_iload_n 3 (pc' := 28) hC dX2_isOfKind_27 rfl rfl ?_
          refine j_iconst (v := 2) (pc' := 29) hC dX2_isOfKind_28 rfl rfl ?_
          refine j_icmp_ne (tgt := 36) (pc' := 32) hC dX2_isOfKind_29 (by decide) rfl (fun c9 => ?_) (fun c9 => ?_)
          · have h := jit_f c9 h
            refine j_iconst (v := 0) (pc' := 37) hC dX2_isOfKind_36 rfl rfl ?_
            have q8 := jinj1 h
            subst q8
            exact j_zret hC dX2_isOfKind_37 (by decide)
          · have h := jit_t c9 h
            refine j_iconst (v := 1) (pc' := 33) hC dX2_isOfKind_32 rfl rfl ?_
            refine j_goto (tgt := 37) (pc' := 0) hC dX2_isOfKind_33 (by decide) ?_
            have q8 := jinj1 h
            subst q8
            exact j_zret hC dX2_isOfKind_37 (by decide)
theorem lp_X0_comeBits_L4_b {Γ : jG} (hC : jOK Γ cX0_comeBits 4 RX0 (some .int) { frames := 1, cells := 0, slots := 0, locals := 21 }) {Q : State → Prop} (rec : Int32 → Int32 → Int32 → jM → Option (Int32 × Int32)) (ih : ∀ (x1 : Int32) (x2 : Int32) (x3 : Int32) (M : jM) (e2 : Int32) (e3 : Int32), rec x1 x2 x3 M = some (e2, e3) → jJ Γ GX RX 40 [(0, .ref (jad Γ 39)), (1, .int x1), (2, .int e2), (3, .int e3)] [] M Q → jJ Γ GX RX 4 [(0, .ref (jad Γ 39)), (1, .int x1), (2, .int x2), (3, .int x3)] [] M Q) (x1 : Int32) (x2 : Int32) (x3 : Int32) (M : jM) (e2 : Int32) (e3 : Int32) (h : f_X0_comeBits_L4_b rec x1 x2 x3 M = some (e2, e3)) (hK : jJ Γ GX RX 40 [(0, .ref (jad Γ 39)), (1, .int x1), (2, .int e2), (3, .int e3)] [] M Q) : jJ Γ GX RX 4 [(0, .ref (jad Γ 39)), (1, .int x1), (2, .int x2), (3, .int x3)] [] M Q := by
  unfold f_X0_comeBits_L4_b at h
  refine j_iload_n 3 (pc' := 5) hC dX0_comeBits_4 rfl rfl ?_
  refine j_aload_n 0 (pc' := 6) hC dX0_comeBits_5 rfl rfl ?_
  refine j_getr' (o2 := 29) (pc' := 9) hC dX0_comeBits_6 rfl fi_X0_46 gx39 rfl ?_
  refine j_geti' (pc' := 12) hC dX0_comeBits_9 rfl fi_X0_99 gx29 ?_
  refine j_icmp_ge (tgt := 40) (pc' := 15) hC dX0_comeBits_12 (by decide) rfl (fun c1 => ?_) (fun c1 => ?_)
  · have h := jit_t c1 h
    obtain ⟨q0, q1⟩ := jinj2 h
    subst q0
    subst q1
    refine j_sub [0, 1, 2, 3] rfl ?_
    exact hK
  · have h := jit_f c1 h
    refine j_iload_n 2 (pc' := 16) hC dX0_comeBits_15 rfl rfl ?_
    refine j_aload_n 0 (pc' := 17) hC dX0_comeBits_16 rfl rfl ?_
    refine j_iload_n 3 (pc' := 18) hC dX0_comeBits_17 rfl rfl ?_
    obtain ⟨r2, hc3, h⟩ := jb1_s h
    refine j_callVi [.int x3] (pc' := 21) hC dX0_comeBits_18 rfl (t_X0_comingDay _ _ hc3) gx39 vcl0 cv_X0_102 ⟨⟨Nat.le_of_ble_eq_true rfl, Nat.le_of_ble_eq_true rfl⟩, rfl, Nat.le_of_ble_eq_true rfl⟩ rfl rfl ?_
    refine j_iload_n 1 (pc' := 22) hC dX0_comeBits_21 rfl rfl ?_
    obtain ⟨v5, hm7, h⟩ := jlet_s h
    have K6 : jJ Γ GX RX 32 [(0, .ref (jad Γ 39)), (1, .int x1), (2, .int x2), (3, .int x3)] [.int v5, .int x2] M Q := by
      refine j_ior (pc' := 33) hC dX0_comeBits_32 rfl ?_
      obtain ⟨v9, ev9, h⟩ := jlet_s h
      refine j_istore_n (pc' := 34) hC dX0_comeBits_33 rfl ev9 (by decide) rfl ?_
      obtain ⟨v10, ev10, h⟩ := jlet_s h
      refine j_iinc' 3 (c := 1) (pc' := 37) hC dX0_comeBits_34 rfl rfl rfl ev10 (by decide) rfl ?_
      refine j_goto (tgt := 4) (pc' := 0) hC dX0_comeBits_37 (by decide) ?_
      refine j_sub [2, 3, 1, 0] rfl ?_
      exact ih _ _ _ _ _ _ h hK
    refine j_icmp_gt (tgt := 31) (pc' := 25) hC dX0_comeBits_22 (by decide) rfl (fun c8 => ?_) (fun c8 => ?_)
    · have hm7 := jit_t c8 hm7
      refine j_iconst (v := 0) (pc' := 32) hC dX0_comeBits_31 rfl rfl ?_
      subst hm7
      exact j_sub [0, 1, 2, 3] rfl K6
    · have hm7 := jit_f c8 hm7
      refine j_iconst (v := 1) (pc' := 26) hC dX0_comeBits_25 rfl rfl ?_
      refine j_iload_n 3 (pc' := 27) hC dX0_comeBits_26 rfl rfl ?_
      refine j_ishl (pc' := 28) hC dX0_comeBits_27 rfl ?_
      refine j_goto (tgt := 32) (pc' := 0) hC dX0_comeBits_28 (by decide) ?_
      subst hm7
      exact j_sub [0, 1, 2, 3] rfl K6
theorem lp_X0_comeBits_L4 {Γ : jG} (hC : jOK Γ cX0_comeBits 4 RX0 (some .int) { frames := 1, cells := 0, slots := 0, locals := 21 }) {Q : State → Prop} : ∀ (n : Nat) (x1 : Int32) (x2 : Int32) (x3 : Int32) (M : jM) (e2 : Int32) (e3 : Int32), f_X0_comeBits_L4 n x1 x2 x3 M = some (e2, e3) → jJ Γ GX RX 40 [(0, .ref (jad Γ 39)), (1, .int x1), (2, .int e2), (3, .int e3)] [] M Q → jJ Γ GX RX 4 [(0, .ref (jad Γ 39)), (1, .int x1), (2, .int x2), (3, .int x3)] [] M Q := by
  intro n
  induction n with
  | zero =>
    intro x1 x2 x3 M e2 e3 h hK
    exact jno h
  | succ n ih =>
    intro x1 x2 x3 M e2 e3 h hK
    exact lp_X0_comeBits_L4_b hC (f_X0_comeBits_L4 n) ih x1 x2 x3 M e2 e3 h hK
theorem t_X0_comeBits (l : Launch) (E : jE) {a1 : Int32} {M : jM} {r : Int32} (h : f_X0_comeBits a1 M = some r) : jCi l yX0_comeBits cX0_comeBits 4 (some .int) 1 21 E RX GX (fun a _ => [.ref (a 39), .int a1]) M r M := by
  refine jCi_of (own := RX0) (by decide) rfl (fun _ _ => Nat.le_of_ble_eq_true rfl) ?_
  intro Γ hC
  show jJ Γ GX RX 0 [(0, .ref (jad Γ 39)), (1, .int a1)] [] M (jQi Γ RX GX r M)
  unfold f_X0_comeBits at h
  refine j_iconst (v := 0) (pc' := 1) hC dX0_comeBits_0 rfl rfl ?_
  refine j_istore_n (pc' := 2) hC dX0_comeBits_1 rfl rfl (by decide) rfl ?_
  refine j_iconst (v := 0) (pc' := 3) hC dX0_comeBits_2 rfl rfl ?_
  refine j_istore_n (pc' := 4) hC dX0_comeBits_3 rfl rfl (by decide) rfl ?_
  refine j_sub [2, 3, 1, 0] rfl ?_
  obtain ⟨v1, v2, hm3, h⟩ := jb2_s h
  refine lp_X0_comeBits_L4 hC  jfu a1 (0 : Int32) (0 : Int32) M v1 v2 hm3 ?_
  refine j_iload_n 2 (pc' := 41) hC dX0_comeBits_40 rfl rfl ?_
  have q8 := jinj1 h
  subst q8
  exact j_iret hC dX0_comeBits_41
theorem t_X0_unopenedBits (l : Launch) (E : jE) {M : jM} {r : Int32} (h : f_X0_unopenedBits M = some r) : jCi l yX0_unopenedBits cX0_unopenedBits 1 (some .int) 0 0 E RX GX (fun a _ => [.ref (a 39)]) M r M := by
  refine jCi_of (own := RX0) (by decide) rfl (fun _ _ => Nat.le_of_ble_eq_true rfl) ?_
  intro Γ hC
  show jJ Γ GX RX 0 [(0, .ref (jad Γ 39))] [] M (jQi Γ RX GX r M)
  unfold f_X0_unopenedBits at h
  refine j_iconst (v := 1) (pc' := 1) hC dX0_unopenedBits_0 rfl rfl ?_
  refine j_aload_n 0 (pc' := 2) hC dX0_unopenedBits_1 rfl rfl ?_
  refine j_getr' (o2 := 29) (pc' := 5) hC dX0_unopenedBits_2 rfl fi_X0_46 gx39 rfl ?_
  refine j_geti' (pc' := 8) hC dX0_unopenedBits_5 rfl fi_X0_99 gx29 ?_
  refine j_ishl (pc' := 9) hC dX0_unopenedBits_8 rfl ?_
  refine j_iconst (v := 1) (pc' := 10) hC dX0_unopenedBits_9 rfl rfl ?_
  refine j_isub (pc' := 11) hC dX0_unopenedBits_10 rfl ?_
  refine j_aload_n 0 (pc' := 12) hC dX0_unopenedBits_11 rfl rfl ?_
  refine j_geti' (pc' := 15) hC dX0_unopenedBits_12 rfl fi_X0_34 gx39 ?_
  refine j_aload_n 0 (pc' := 16) hC dX0_unopenedBits_15 rfl rfl ?_
  refine j_geti' (pc' := 19) hC dX0_unopenedBits_16 rfl fi_X0_37 gx39 ?_
  refine j_ior (pc' := 20) hC dX0_unopenedBits_19 rfl ?_
  refine j_iconst (v := -1) (pc' := 21) hC dX0_unopenedBits_20 rfl rfl ?_
  refine j_ixor (pc' := 22) hC dX0_unopenedBits_21 rfl ?_
  refine j_iand (pc' := 23) hC dX0_unopenedBits_22 rfl ?_
  have q8 := jinj1 h
  subst q8
  exact j_iret hC dX0_unopenedBits_23
theorem t_X0_shelfBits (l : Launch) (E : jE) {M : jM} {r : Int32} (h : f_X0_shelfBits M = some r) : jCi l yX0_shelfBits cX0_shelfBits 1 (some .int) 2 44 E RX GX (fun a _ => [.ref (a 39)]) M r M := by
  refine jCi_of (own := RX0) (by decide) rfl (fun _ _ => Nat.le_of_ble_eq_true rfl) ?_
  intro Γ hC
  show jJ Γ GX RX 0 [(0, .ref (jad Γ 39))] [] M (jQi Γ RX GX r M)
  unfold f_X0_shelfBits at h
  refine j_aload_n 0 (pc' := 1) hC dX0_shelfBits_0 rfl rfl ?_
  refine j_aload_n 0 (pc' := 2) hC dX0_shelfBits_1 rfl rfl ?_
  refine j_geti' (pc' := 5) hC dX0_shelfBits_2 rfl fi_X0_31 gx39 ?_
  obtain ⟨r1, hc2, h⟩ := jb1_s h
  refine j_callVi [.int (gi M 39 7)] (pc' := 8) hC dX0_shelfBits_5 rfl (t_X0_comeBits _ _ hc2) gx39 vcl0 cv_X0_106 ⟨⟨Nat.le_of_ble_eq_true rfl, Nat.le_of_ble_eq_true rfl⟩, rfl, Nat.le_of_ble_eq_true rfl⟩ rfl rfl ?_
  refine j_aload_n 0 (pc' := 9) hC dX0_shelfBits_8 rfl rfl ?_
  obtain ⟨r3, hc4, h⟩ := jb1_s h
  refine j_callVi [] (pc' := 12) hC dX0_shelfBits_9 rfl (t_X0_unopenedBits _ _ hc4) gx39 vcl0 cv_X0_109 ⟨⟨Nat.le_of_ble_eq_true rfl, Nat.le_of_ble_eq_true rfl⟩, rfl, Nat.le_of_ble_eq_true rfl⟩ rfl rfl ?_
  refine j_iand (pc' := 13) hC dX0_shelfBits_12 rfl ?_
  have q8 := jinj1 h
  subst q8
  exact j_iret hC dX0_shelfBits_13
theorem t_X2_isHungry (l : Launch) (E : jE) {a1 : Int32} {a2 : Int32} {M : jM} {r : Int32} (h : f_X2_isHungry a1 a2 M = some r) : jCi l yX2_isHungry cX2_isHungry 3 (some .boolean) 1 23 E RX GX (fun a _ => [.ref (a 29), .int a1, .int a2]) M r M := by
  refine jCi_of (own := RX2) (by decide) rfl (fun _ _ => Nat.le_of_ble_eq_true rfl) ?_
  intro Γ hC
  show jJ Γ GX RX 0 [(0, .ref (jad Γ 29)), (1, .int a1), (2, .int a2)] [] M (jQi Γ RX GX r M)
  unfold f_X2_isHungry at h
  refine j_aload_n 0 (pc' := 1) hC dX2_isHungry_0 rfl rfl ?_
  refine j_iload_n 1 (pc' := 2) hC dX2_isHungry_1 rfl rfl ?_
  refine j_iconst (v := 1) (pc' := 3) hC dX2_isHungry_2 rfl rfl ?_
  obtain ⟨r1, hc2, h⟩ := jb1_s h
  refine j_callVi [.int a1, .int (1 : Int32)] (pc' := 6) hC dX2_isHungry_3 rfl (t_X2_isOfKind _ _ hc2) gx29 vcl2 cv_X2_82 ⟨⟨Nat.le_of_ble_eq_true rfl, Nat.le_of_ble_eq_true rfl⟩, rfl, Nat.le_of_ble_eq_true rfl⟩ rfl rfl ?_
  refine j_if_eq (tgt := 14) (pc' := 9) hC dX2_isHungry_6 (by decide) rfl (fun c3 => ?_) (fun c3 => ?_)
  · have h := jit_t c3 h
    refine j_iconst (v := 1) (pc' := 15) hC dX2_isHungry_14 rfl rfl ?_
    refine j_goto (tgt := 19) (pc' := 0) hC dX2_isHungry_15 (by decide) ?_
    have q8 := jinj1 h
    subst q8
    exact j_zret hC dX2_isHungry_19 (by decide)
  · have h := jit_f c3 h
    refine j_iload_n 2 (pc' := 10) hC dX2_isHungry_9 rfl rfl ?_
    refine j_iconst (v := 2) (pc' := 11) hC dX2_isHungry_10 rfl rfl ?_
    refine j_icmp_lt (tgt := 18) (pc' := 14) hC dX2_isHungry_11 (by decide) rfl (fun c4 => ?_) (fun c4 => ?_)
    · have h := jit_t c4 h
      refine j_iconst (v := 0) (pc' := 19) hC dX2_isHungry_18 rfl rfl ?_
      have q8 := jinj1 h
      subst q8
      exact j_zret hC dX2_isHungry_19 (by decide)
    · have h := jit_f c4 h
      refine j_iconst (v := 1) (pc' := 15) hC dX2_isHungry_14 rfl rfl ?_
      refine j_goto (tgt := 19) (pc' := 0) hC dX2_isHungry_15 (by decide) ?_
      have q8 := jinj1 h
      subst q8
      exact j_zret hC dX2_isHungry_19 (by decide)
theorem t_X2_hindrance (l : Launch) (E : jE) {a1 : Int32} {a2 : Int32} {a3 : Int32} {a4 : Int32} {M : jM} {r : Int32} (h : f_X2_hindrance a1 a2 a3 a4 M = some r) : jCi l yX2_hindrance cX2_hindrance 6 (some .int) 3 64 E RX GX (fun a _ => [.ref (a 29), .int a1, .int a2, .int a3, .int a4]) M r M := by
  refine jCi_of (own := RX2) (by decide) rfl (fun _ _ => Nat.le_of_ble_eq_true rfl) ?_
  intro Γ hC
  show jJ Γ GX RX 0 [(0, .ref (jad Γ 29)), (1, .int a1), (2, .int a2), (3, .int a3), (4, .int a4)] [] M (jQi Γ RX GX r M)
  unfold f_X2_hindrance at h
  refine j_iload_n 3 (pc' := 1) hC dX2_hindrance_0 rfl rfl ?_
  refine j_iload_n 1 (pc' := 2) hC dX2_hindrance_1 rfl rfl ?_
  obtain ⟨r1, hc2, h⟩ := jb1_s h
  refine j_callNi [.int a3, .int a1] (pc' := 5) hC dX2_hindrance_2 rfl (t_X5_isIn _ _ hc2) cn_X2_65 ⟨⟨Nat.le_of_ble_eq_true rfl, Nat.le_of_ble_eq_true rfl⟩, rfl, Nat.le_of_ble_eq_true rfl⟩ rfl rfl ?_
  refine j_if_eq (tgt := 10) (pc' := 8) hC dX2_hindrance_5 (by decide) rfl (fun c3 => ?_) (fun c3 => ?_)
  · have h := jit_t c3 h
    refine j_aload_n 0 (pc' := 11) hC dX2_hindrance_10 rfl rfl ?_
    refine j_getr' (o2 := 32) (pc' := 14) hC dX2_hindrance_11 rfl fi_X2_25 gx29 rfl ?_
    refine j_iload_n 1 (pc' := 15) hC dX2_hindrance_14 rfl rfl ?_
    obtain ⟨g4, h⟩ := jg_s h
    refine j_iald (pc' := 16) hC dX2_hindrance_15 rfl gx32 g4 ?_
    refine j_iload_n 3 (pc' := 17) hC dX2_hindrance_16 rfl rfl ?_
    refine j_iconst (v := -1) (pc' := 18) hC dX2_hindrance_17 rfl rfl ?_
    refine j_ixor (pc' := 19) hC dX2_hindrance_18 rfl ?_
    refine j_iand (pc' := 20) hC dX2_hindrance_19 rfl ?_
    refine j_if_eq (tgt := 25) (pc' := 23) hC dX2_hindrance_20 (by decide) rfl (fun c5 => ?_) (fun c5 => ?_)
    · have h := jit_t c5 h
      refine j_aload_n 0 (pc' := 26) hC dX2_hindrance_25 rfl rfl ?_
      refine j_iload_n 1 (pc' := 27) hC dX2_hindrance_26 rfl rfl ?_
      refine j_iload_n 2 (pc' := 28) hC dX2_hindrance_27 rfl rfl ?_
      obtain ⟨r6, hc7, h⟩ := jb1_s h
      refine j_callVi [.int a1, .int a2] (pc' := 31) hC dX2_hindrance_28 rfl (t_X2_hasLight _ _ hc7) gx29 vcl2 cv_X2_72 ⟨⟨Nat.le_of_ble_eq_true rfl, Nat.le_of_ble_eq_true rfl⟩, rfl, Nat.le_of_ble_eq_true rfl⟩ rfl rfl ?_
      refine j_if_ne (tgt := 36) (pc' := 34) hC dX2_hindrance_31 (by decide) rfl (fun c8 => ?_) (fun c8 => ?_)
      · have h := jit_f c8 h
        refine j_aload_n 0 (pc' := 37) hC dX2_hindrance_36 rfl rfl ?_
        refine j_iload_n 1 (pc' := 38) hC dX2_hindrance_37 rfl rfl ?_
        refine j_iload_n 2 (pc' := 39) hC dX2_hindrance_38 rfl rfl ?_
        obtain ⟨r9, hc10, h⟩ := jb1_s h
        refine j_callVi [.int a1, .int a2] (pc' := 42) hC dX2_hindrance_39 rfl (t_X2_isTimeOf _ _ hc10) gx29 vcl2 cv_X2_75 ⟨⟨Nat.le_of_ble_eq_true rfl, Nat.le_of_ble_eq_true rfl⟩, rfl, Nat.le_of_ble_eq_true rfl⟩ rfl rfl ?_
        obtain ⟨v18, hm20, h⟩ := jb1_s h
        have K19 : jJ Γ GX RX 69 [(0, .ref (jad Γ 29)), (1, .int a1), (2, .int a2), (3, .int a3), (4, .int a4)] [.int v18] M (jQi Γ RX GX r M) := by
          refine j_istore (pc' := 71) hC dX2_hindrance_69 rfl rfl (by decide) rfl ?_
          refine j_iload 0 (pc' := 73) hC dX2_hindrance_71 rfl rfl ?_
          refine j_if_eq (tgt := 80) (pc' := 76) hC dX2_hindrance_73 (by decide) rfl (fun c28 => ?_) (fun c28 => ?_)
          · have h := jit_t c28 h
            refine j_iconst (v := 4) (pc' := 81) hC dX2_hindrance_80 rfl rfl ?_
            have q8 := jinj1 h
            subst q8
            exact j_iret hC dX2_hindrance_81
          · have h := jit_f c28 h
            refine j_iconst (v := 0) (pc' := 77) hC dX2_hindrance_76 rfl rfl ?_
            refine j_goto (tgt := 81) (pc' := 0) hC dX2_hindrance_77 (by decide) ?_
            have q8 := jinj1 h
            subst q8
            exact j_iret hC dX2_hindrance_81
        refine j_if_eq (tgt := 68) (pc' := 45) hC dX2_hindrance_42 (by decide) rfl (fun c21 => ?_) (fun c21 => ?_)
        · have hm20 := jit_t c21 hm20
          refine j_iconst (v := 0) (pc' := 69) hC dX2_hindrance_68 rfl rfl ?_
          have q8 := jinj1 hm20
          subst q8
          exact j_sub [0, 1, 2, 3, 4] rfl K19
        · have hm20 := jit_f c21 hm20
          refine j_aload_n 0 (pc' := 46) hC dX2_hindrance_45 rfl rfl ?_
          refine j_iload_n 1 (pc' := 47) hC dX2_hindrance_46 rfl rfl ?_
          refine j_iload 4 (pc' := 49) hC dX2_hindrance_47 rfl rfl ?_
          obtain ⟨r22, hc23, hm20⟩ := jb1_s hm20
          refine j_callVi [.int a1, .int a4] (pc' := 52) hC dX2_hindrance_49 rfl (t_X2_isHungry _ _ hc23) gx29 vcl2 cv_X2_94 ⟨⟨Nat.le_of_ble_eq_true rfl, Nat.le_of_ble_eq_true rfl⟩, rfl, Nat.le_of_ble_eq_true rfl⟩ rfl rfl ?_
          refine j_if_eq (tgt := 68) (pc' := 55) hC dX2_hindrance_52 (by decide) rfl (fun c24 => ?_) (fun c24 => ?_)
          · have hm20 := jit_t c24 hm20
            refine j_iconst (v := 0) (pc' := 69) hC dX2_hindrance_68 rfl rfl ?_
            have q8 := jinj1 hm20
            subst q8
            exact j_sub [0, 1, 2, 3, 4] rfl K19
          · have hm20 := jit_f c24 hm20
            refine j_aload_n 0 (pc' := 56) hC dX2_hindrance_55 rfl rfl ?_
            refine j_iload_n 1 (pc' := 57) hC dX2_hindrance_56 rfl rfl ?_
            refine j_iload_n 3 (pc' := 58) hC dX2_hindrance_57 rfl rfl ?_
            obtain ⟨r25, hc26, hm20⟩ := jb1_s hm20
            refine j_callVi [.int a1, .int a3] (pc' := 61) hC dX2_hindrance_58 rfl (t_X2_hasCompany _ _ hc26) gx29 vcl2 cv_X2_69 ⟨⟨Nat.le_of_ble_eq_true rfl, Nat.le_of_ble_eq_true rfl⟩, rfl, Nat.le_of_ble_eq_true rfl⟩ rfl rfl ?_
            refine j_if_eq (tgt := 68) (pc' := 64) hC dX2_hindrance_61 (by decide) rfl (fun c27 => ?_) (fun c27 => ?_)
            · have hm20 := jit_t c27 hm20
              refine j_iconst (v := 0) (pc' := 69) hC dX2_hindrance_68 rfl rfl ?_
              have q8 := jinj1 hm20
              subst q8
              exact j_sub [0, 1, 2, 3, 4] rfl K19
            · have hm20 := jit_f c27 hm20
              refine j_iconst (v := 1) (pc' := 65) hC dX2_hindrance_64 rfl rfl ?_
              refine j_goto (tgt := 69) (pc' := 0) hC dX2_hindrance_65 (by decide) ?_
              have q8 := jinj1 hm20
              subst q8
              exact j_sub [0, 1, 2, 3, 4] rfl K19
      · have h := jit_t c8 h
        refine j_iconst (v := 3) (pc' := 35) hC dX2_hindrance_34 rfl rfl ?_
        have q8 := jinj1 h
        subst q8
        exact j_iret hC dX2_hindrance_35
    · have h := jit_f c5 h
      refine j_iconst (v := 2) (pc' := 24) hC dX2_hindrance_23 rfl rfl ?_
      have q8 := jinj1 h
      subst q8
      exact j_iret hC dX2_hindrance_24
  · have h := jit_f c3 h
    refine j_iconst (v := 1) (pc' := 9) hC dX2_hindrance_8 rfl rfl ?_
    have q8 := jinj1 h
    subst q8
    exact j_iret hC dX2_hindrance_9
theorem t_X0_hindrance (l : Launch) (E : jE) {a1 : Int32} {a2 : Int32} {M : jM} {r : Int32} (h : f_X0_hindrance a1 a2 M = some r) : jCi l yX0_hindrance cX0_hindrance 3 (some .int) 4 89 E RX GX (fun a _ => [.ref (a 39), .int a1, .int a2]) M r M := by
  refine jCi_of (own := RX0) (by decide) rfl (fun _ _ => Nat.le_of_ble_eq_true rfl) ?_
  intro Γ hC
  show jJ Γ GX RX 0 [(0, .ref (jad Γ 39)), (1, .int a1), (2, .int a2)] [] M (jQi Γ RX GX r M)
  unfold f_X0_hindrance at h
  refine j_aload_n 0 (pc' := 1) hC dX0_hindrance_0 rfl rfl ?_
  refine j_getr' (o2 := 29) (pc' := 4) hC dX0_hindrance_1 rfl fi_X0_46 gx39 rfl ?_
  refine j_iload_n 1 (pc' := 5) hC dX0_hindrance_4 rfl rfl ?_
  refine j_iload_n 2 (pc' := 6) hC dX0_hindrance_5 rfl rfl ?_
  refine j_aload_n 0 (pc' := 7) hC dX0_hindrance_6 rfl rfl ?_
  refine j_geti' (pc' := 10) hC dX0_hindrance_7 rfl fi_X0_40 gx39 ?_
  refine j_aload_n 0 (pc' := 11) hC dX0_hindrance_10 rfl rfl ?_
  refine j_geti' (pc' := 14) hC dX0_hindrance_11 rfl fi_X0_43 gx39 ?_
  obtain ⟨r1, hc2, h⟩ := jb1_s h
  refine j_callVi [.int a1, .int a2, .int (gi M 39 10), .int (gi M 39 11)] (pc' := 17) hC dX0_hindrance_14 rfl (t_X2_hindrance _ _ hc2) gx29 vcl2 cv_X0_122 ⟨⟨Nat.le_of_ble_eq_true rfl, Nat.le_of_ble_eq_true rfl⟩, rfl, Nat.le_of_ble_eq_true rfl⟩ rfl rfl ?_
  have q8 := jinj1 h
  subst q8
  exact j_iret hC dX0_hindrance_17
theorem lp_X5_hoursFor_L13_b {Γ : jG} (hC : jOK Γ cX5_hoursFor 5 RX5 (some .int) { frames := 5, cells := 0, slots := 0, locals := 111 }) {Q : State → Prop} (rec : Int32 → Int32 → Int32 → Int32 → jM → Option (Int32 × Int32)) (ih : ∀ (x1 : Int32) (x2 : Int32) (x3 : Int32) (x4 : Int32) (M : jM) (e3 : Int32) (e4 : Int32), rec x1 x2 x3 x4 M = some (e3, e4) → jJ Γ GX RX 61 [(0, .ref (jad Γ 0)), (1, .int x1), (2, .int x2), (3, .int e3), (4, .int e4)] [] M Q → jJ Γ GX RX 13 [(0, .ref (jad Γ 0)), (1, .int x1), (2, .int x2), (3, .int x3), (4, .int x4)] [] M Q) (x1 : Int32) (x2 : Int32) (x3 : Int32) (x4 : Int32) (M : jM) (e3 : Int32) (e4 : Int32) (h : f_X5_hoursFor_L13_b rec x1 x2 x3 x4 M = some (e3, e4)) (hK : jJ Γ GX RX 61 [(0, .ref (jad Γ 0)), (1, .int x1), (2, .int x2), (3, .int e3), (4, .int e4)] [] M Q) : jJ Γ GX RX 13 [(0, .ref (jad Γ 0)), (1, .int x1), (2, .int x2), (3, .int x3), (4, .int x4)] [] M Q := by
  unfold f_X5_hoursFor_L13_b at h
  refine j_iload 4 (pc' := 15) hC dX5_hoursFor_13 rfl rfl ?_
  refine j_aload_n 0 (pc' := 16) hC dX5_hoursFor_15 rfl rfl ?_
  refine j_getr' (o2 := 29) (pc' := 19) hC dX5_hoursFor_16 rfl fi_X5_31 gx0 rfl ?_
  refine j_geti' (pc' := 22) hC dX5_hoursFor_19 rfl fi_X5_228 gx29 ?_
  refine j_icmp_ge (tgt := 61) (pc' := 25) hC dX5_hoursFor_22 (by decide) rfl (fun c1 => ?_) (fun c1 => ?_)
  · have h := jit_t c1 h
    obtain ⟨q0, q1⟩ := jinj2 h
    subst q0
    subst q1
    refine j_sub [0, 1, 2, 3, 4] rfl ?_
    exact hK
  · have h := jit_f c1 h
    refine j_iload_n 3 (pc' := 26) hC dX5_hoursFor_25 rfl rfl ?_
    refine j_iload_n 2 (pc' := 27) hC dX5_hoursFor_26 rfl rfl ?_
    refine j_iload 4 (pc' := 29) hC dX5_hoursFor_27 rfl rfl ?_
    obtain ⟨r2, hc3, h⟩ := jb1_s h
    refine j_callSi [.int x2, .int x4] (pc' := 32) hC dX5_hoursFor_29 rfl (t_X5_isIn _ _ hc3) cs_X5_270 ⟨⟨Nat.le_of_ble_eq_true rfl, Nat.le_of_ble_eq_true rfl⟩, rfl, Nat.le_of_ble_eq_true rfl⟩ rfl rfl ?_
    obtain ⟨v8, hm10, h⟩ := jb1_s h
    have K9 : jJ Γ GX RX 53 [(0, .ref (jad Γ 0)), (1, .int x1), (2, .int x2), (3, .int x3), (4, .int x4)] [.int v8, .int x3] M Q := by
      refine j_iadd (pc' := 54) hC dX5_hoursFor_53 rfl ?_
      obtain ⟨v15, ev15, h⟩ := jlet_s h
      refine j_istore_n (pc' := 55) hC dX5_hoursFor_54 rfl ev15 (by decide) rfl ?_
      obtain ⟨v16, ev16, h⟩ := jlet_s h
      refine j_iinc' 4 (c := 1) (pc' := 58) hC dX5_hoursFor_55 rfl rfl rfl ev16 (by decide) rfl ?_
      refine j_goto (tgt := 13) (pc' := 0) hC dX5_hoursFor_58 (by decide) ?_
      refine j_sub [2, 3, 4, 1, 0] rfl ?_
      exact ih _ _ _ _ _ _ _ h hK
    refine j_if_eq (tgt := 52) (pc' := 35) hC dX5_hoursFor_32 (by decide) rfl (fun c11 => ?_) (fun c11 => ?_)
    · have hm10 := jit_t c11 hm10
      refine j_iconst (v := 0) (pc' := 53) hC dX5_hoursFor_52 rfl rfl ?_
      have q8 := jinj1 hm10
      subst q8
      exact j_sub [0, 1, 2, 3, 4] rfl K9
    · have hm10 := jit_f c11 hm10
      refine j_aload_n 0 (pc' := 36) hC dX5_hoursFor_35 rfl rfl ?_
      refine j_getr' (o2 := 39) (pc' := 39) hC dX5_hoursFor_36 rfl fi_X5_40 gx0 rfl ?_
      refine j_iload_n 1 (pc' := 40) hC dX5_hoursFor_39 rfl rfl ?_
      refine j_iload 4 (pc' := 42) hC dX5_hoursFor_40 rfl rfl ?_
      obtain ⟨r12, hc13, hm10⟩ := jb1_s hm10
      refine j_callVi [.int x1, .int x4] (pc' := 45) hC dX5_hoursFor_42 rfl (t_X0_hindrance _ _ hc13) gx39 vcl0 cv_X5_206 ⟨⟨Nat.le_of_ble_eq_true rfl, Nat.le_of_ble_eq_true rfl⟩, rfl, Nat.le_of_ble_eq_true rfl⟩ rfl rfl ?_
      refine j_if_ne (tgt := 52) (pc' := 48) hC dX5_hoursFor_45 (by decide) rfl (fun c14 => ?_) (fun c14 => ?_)
      · have hm10 := jit_f c14 hm10
        refine j_iconst (v := 0) (pc' := 53) hC dX5_hoursFor_52 rfl rfl ?_
        have q8 := jinj1 hm10
        subst q8
        exact j_sub [0, 1, 2, 3, 4] rfl K9
      · have hm10 := jit_t c14 hm10
        refine j_iconst (v := 1) (pc' := 49) hC dX5_hoursFor_48 rfl rfl ?_
        refine j_goto (tgt := 53) (pc' := 0) hC dX5_hoursFor_49 (by decide) ?_
        have q8 := jinj1 hm10
        subst q8
        exact j_sub [0, 1, 2, 3, 4] rfl K9
theorem lp_X5_hoursFor_L13 {Γ : jG} (hC : jOK Γ cX5_hoursFor 5 RX5 (some .int) { frames := 5, cells := 0, slots := 0, locals := 111 }) {Q : State → Prop} : ∀ (n : Nat) (x1 : Int32) (x2 : Int32) (x3 : Int32) (x4 : Int32) (M : jM) (e3 : Int32) (e4 : Int32), f_X5_hoursFor_L13 n x1 x2 x3 x4 M = some (e3, e4) → jJ Γ GX RX 61 [(0, .ref (jad Γ 0)), (1, .int x1), (2, .int x2), (3, .int e3), (4, .int e4)] [] M Q → jJ Γ GX RX 13 [(0, .ref (jad Γ 0)), (1, .int x1), (2, .int x2), (3, .int x3), (4, .int x4)] [] M Q := by
  intro n
  induction n with
  | zero =>
    intro x1 x2 x3 x4 M e3 e4 h hK
    exact jno h
  | succ n ih =>
    intro x1 x2 x3 x4 M e3 e4 h hK
    exact lp_X5_hoursFor_L13_b hC (f_X5_hoursFor_L13 n) ih x1 x2 x3 x4 M e3 e4 h hK
theorem t_X5_hoursFor (l : Launch) (E : jE) {a1 : Int32} {M : jM} {r : Int32} (h : f_X5_hoursFor a1 M = some r) : jCi l yX5_hoursFor cX5_hoursFor 5 (some .int) 5 111 E RX GX (fun a _ => [.ref (a 0), .int a1]) M r M := by
  refine jCi_of (own := RX5) (by decide) rfl (fun _ _ => Nat.le_of_ble_eq_true rfl) ?_
  intro Γ hC
  show jJ Γ GX RX 0 [(0, .ref (jad Γ 0)), (1, .int a1)] [] M (jQi Γ RX GX r M)
  unfold f_X5_hoursFor at h
  refine j_aload_n 0 (pc' := 1) hC dX5_hoursFor_0 rfl rfl ?_
  refine j_getr' (o2 := 39) (pc' := 4) hC dX5_hoursFor_1 rfl fi_X5_40 gx0 rfl ?_
  obtain ⟨r1, hc2, h⟩ := jb1_s h
  refine j_callVi [] (pc' := 7) hC dX5_hoursFor_4 rfl (t_X0_shelfBits _ _ hc2) gx39 vcl0 cv_X5_209 ⟨⟨Nat.le_of_ble_eq_true rfl, Nat.le_of_ble_eq_true rfl⟩, rfl, Nat.le_of_ble_eq_true rfl⟩ rfl rfl ?_
  refine j_istore_n (pc' := 8) hC dX5_hoursFor_7 rfl rfl (by decide) rfl ?_
  refine j_iconst (v := 0) (pc' := 9) hC dX5_hoursFor_8 rfl rfl ?_
  refine j_istore_n (pc' := 10) hC dX5_hoursFor_9 rfl rfl (by decide) rfl ?_
  refine j_iconst (v := 0) (pc' := 11) hC dX5_hoursFor_10 rfl rfl ?_
  refine j_istore (pc' := 13) hC dX5_hoursFor_11 rfl rfl (by decide) rfl ?_
  refine j_sub [3, 4, 2, 1, 0] rfl ?_
  obtain ⟨v3, v4, hm5, h⟩ := jb2_s h
  refine lp_X5_hoursFor_L13 hC  jfu a1 r1 (0 : Int32) (0 : Int32) M v3 v4 hm5 ?_
  refine j_iload_n 3 (pc' := 62) hC dX5_hoursFor_61 rfl rfl ?_
  have q8 := jinj1 h
  subst q8
  exact j_iret hC dX5_hoursFor_62
theorem lp_X2_neededBy_L5_b {Γ : jG} (hC : jOK Γ cX2_neededBy 5 RX2 (some .int) { frames := 1, cells := 0, slots := 0, locals := 21 }) {Q : State → Prop} (o2 : Nat) (n2 : Nat) (ho2 : GX[o2]? = some (0, n2)) (rec : Int32 → Int32 → Int32 → jM → Option (Int32 × Int32)) (ih : ∀ (x1 : Int32) (x3 : Int32) (x4 : Int32) (M : jM) (e3 : Int32) (e4 : Int32), rec x1 x3 x4 M = some (e3, e4) → jJ Γ GX RX 49 [(0, .ref (jad Γ 29)), (1, .int x1), (2, .ref (jad Γ o2)), (3, .int e3), (4, .int e4)] [] M Q → jJ Γ GX RX 5 [(0, .ref (jad Γ 29)), (1, .int x1), (2, .ref (jad Γ o2)), (3, .int x3), (4, .int x4)] [] M Q) (x1 : Int32) (x3 : Int32) (x4 : Int32) (M : jM) (e3 : Int32) (e4 : Int32) (h : f_X2_neededBy_L5_b o2 n2 rec x1 x3 x4 M = some (e3, e4)) (hK : jJ Γ GX RX 49 [(0, .ref (jad Γ 29)), (1, .int x1), (2, .ref (jad Γ o2)), (3, .int e3), (4, .int e4)] [] M Q) : jJ Γ GX RX 5 [(0, .ref (jad Γ 29)), (1, .int x1), (2, .ref (jad Γ o2)), (3, .int x3), (4, .int x4)] [] M Q := by
  unfold f_X2_neededBy_L5_b at h
  refine j_iload 4 (pc' := 7) hC dX2_neededBy_5 rfl rfl ?_
  refine j_aload_n 0 (pc' := 8) hC dX2_neededBy_7 rfl rfl ?_
  refine j_geti' (pc' := 11) hC dX2_neededBy_8 rfl fi_X2_9 gx29 ?_
  refine j_icmp_ge (tgt := 49) (pc' := 14) hC dX2_neededBy_11 (by decide) rfl (fun c1 => ?_) (fun c1 => ?_)
  · have h := jit_t c1 h
    obtain ⟨q0, q1⟩ := jinj2 h
    subst q0
    subst q1
    refine j_sub [0, 1, 2, 3, 4] rfl ?_
    exact hK
  · have h := jit_f c1 h
    refine j_iload 4 (pc' := 16) hC dX2_neededBy_14 rfl rfl ?_
    refine j_aload_n 2 (pc' := 17) hC dX2_neededBy_16 rfl rfl ?_
    refine j_alen0 (v := (Int32.ofNat n2)) (pc' := 18) hC dX2_neededBy_17 rfl ho2 rfl ?_
    refine j_icmp_ge (tgt := 49) (pc' := 21) hC dX2_neededBy_18 (by decide) rfl (fun c2 => ?_) (fun c2 => ?_)
    · have h := jit_t c2 h
      obtain ⟨q0, q1⟩ := jinj2 h
      subst q0
      subst q1
      refine j_sub [0, 1, 2, 3, 4] rfl ?_
      exact hK
    · have h := jit_f c2 h
      refine j_iload_n 3 (pc' := 22) hC dX2_neededBy_21 rfl rfl ?_
      refine j_aload_n 2 (pc' := 23) hC dX2_neededBy_22 rfl rfl ?_
      refine j_iload 4 (pc' := 25) hC dX2_neededBy_23 rfl rfl ?_
      obtain ⟨g3, h⟩ := jg_s h
      refine j_iald (pc' := 26) hC dX2_neededBy_25 rfl ho2 g3 ?_
      refine j_iload_n 1 (pc' := 27) hC dX2_neededBy_26 rfl rfl ?_
      obtain ⟨r4, hc5, h⟩ := jb1_s h
      refine j_callNi [.int (gi M o2 x4.toNatClampNeg), .int x1] (pc' := 30) hC dX2_neededBy_27 rfl (t_X5_isIn _ _ hc5) cn_X2_65 ⟨⟨Nat.le_of_ble_eq_true rfl, Nat.le_of_ble_eq_true rfl⟩, rfl, Nat.le_of_ble_eq_true rfl⟩ rfl rfl ?_
      obtain ⟨v7, hm9, h⟩ := jlet_s h
      have K8 : jJ Γ GX RX 41 [(0, .ref (jad Γ 29)), (1, .int x1), (2, .ref (jad Γ o2)), (3, .int x3), (4, .int x4)] [.int v7, .int x3] M Q := by
        refine j_ior (pc' := 42) hC dX2_neededBy_41 rfl ?_
        obtain ⟨v11, ev11, h⟩ := jlet_s h
        refine j_istore_n (pc' := 43) hC dX2_neededBy_42 rfl ev11 (by decide) rfl ?_
        obtain ⟨v12, ev12, h⟩ := jlet_s h
        refine j_iinc' 4 (c := 1) (pc' := 46) hC dX2_neededBy_43 rfl rfl rfl ev12 (by decide) rfl ?_
        refine j_goto (tgt := 5) (pc' := 0) hC dX2_neededBy_46 (by decide) ?_
        refine j_sub [2, 3, 4, 1, 0] rfl ?_
        exact ih _ _ _ _ _ _ h hK
      refine j_if_eq (tgt := 40) (pc' := 33) hC dX2_neededBy_30 (by decide) rfl (fun c10 => ?_) (fun c10 => ?_)
      · have hm9 := jit_t c10 hm9
        refine j_iconst (v := 0) (pc' := 41) hC dX2_neededBy_40 rfl rfl ?_
        subst hm9
        exact j_sub [0, 1, 2, 3, 4] rfl K8
      · have hm9 := jit_f c10 hm9
        refine j_iconst (v := 1) (pc' := 34) hC dX2_neededBy_33 rfl rfl ?_
        refine j_iload 4 (pc' := 36) hC dX2_neededBy_34 rfl rfl ?_
        refine j_ishl (pc' := 37) hC dX2_neededBy_36 rfl ?_
        refine j_goto (tgt := 41) (pc' := 0) hC dX2_neededBy_37 (by decide) ?_
        subst hm9
        exact j_sub [0, 1, 2, 3, 4] rfl K8
theorem lp_X2_neededBy_L5 {Γ : jG} (hC : jOK Γ cX2_neededBy 5 RX2 (some .int) { frames := 1, cells := 0, slots := 0, locals := 21 }) {Q : State → Prop} (o2 : Nat) (n2 : Nat) (ho2 : GX[o2]? = some (0, n2)) : ∀ (n : Nat) (x1 : Int32) (x3 : Int32) (x4 : Int32) (M : jM) (e3 : Int32) (e4 : Int32), f_X2_neededBy_L5 o2 n2 n x1 x3 x4 M = some (e3, e4) → jJ Γ GX RX 49 [(0, .ref (jad Γ 29)), (1, .int x1), (2, .ref (jad Γ o2)), (3, .int e3), (4, .int e4)] [] M Q → jJ Γ GX RX 5 [(0, .ref (jad Γ 29)), (1, .int x1), (2, .ref (jad Γ o2)), (3, .int x3), (4, .int x4)] [] M Q := by
  intro n
  induction n with
  | zero =>
    intro x1 x3 x4 M e3 e4 h hK
    exact jno h
  | succ n ih =>
    intro x1 x3 x4 M e3 e4 h hK
    exact lp_X2_neededBy_L5_b hC o2 n2 ho2 (f_X2_neededBy_L5 o2 n2 n) ih x1 x3 x4 M e3 e4 h hK
theorem t_X2_neededBy (l : Launch) (E : jE) {a1 : Int32} {o2 : Nat} {n2 : Nat} (ho2 : GX[o2]? = some (0, n2)) {M : jM} {r : Int32} (h : f_X2_neededBy a1 o2 n2 M = some r) : jCi l yX2_neededBy cX2_neededBy 5 (some .int) 1 21 E RX GX (fun a _ => [.ref (a 29), .int a1, .ref (a o2)]) M r M := by
  refine jCi_of (own := RX2) (by decide) rfl (fun _ _ => Nat.le_of_ble_eq_true rfl) ?_
  intro Γ hC
  show jJ Γ GX RX 0 [(0, .ref (jad Γ 29)), (1, .int a1), (2, .ref (jad Γ o2))] [] M (jQi Γ RX GX r M)
  unfold f_X2_neededBy at h
  refine j_iconst (v := 0) (pc' := 1) hC dX2_neededBy_0 rfl rfl ?_
  refine j_istore_n (pc' := 2) hC dX2_neededBy_1 rfl rfl (by decide) rfl ?_
  refine j_iconst (v := 0) (pc' := 3) hC dX2_neededBy_2 rfl rfl ?_
  refine j_istore (pc' := 5) hC dX2_neededBy_3 rfl rfl (by decide) rfl ?_
  refine j_sub [2, 3, 4, 1, 0] rfl ?_
  obtain ⟨v1, v2, hm3, h⟩ := jb2_s h
  refine lp_X2_neededBy_L5 hC o2 n2 ho2 jfu a1 (0 : Int32) (0 : Int32) M v1 v2 hm3 ?_
  refine j_iload_n 3 (pc' := 50) hC dX2_neededBy_49 rfl rfl ?_
  have q8 := jinj1 h
  subst q8
  exact j_iret hC dX2_neededBy_50
theorem lp_X2_hoursOfLightFor_L4_b {Γ : jG} (hC : jOK Γ cX2_hoursOfLightFor 4 RX2 (some .int) { frames := 2, cells := 0, slots := 0, locals := 43 }) {Q : State → Prop} (rec : Int32 → Int32 → Int32 → jM → Option (Int32 × Int32)) (ih : ∀ (x1 : Int32) (x2 : Int32) (x3 : Int32) (M : jM) (e2 : Int32) (e3 : Int32), rec x1 x2 x3 M = some (e2, e3) → jJ Γ GX RX 35 [(0, .ref (jad Γ 29)), (1, .int x1), (2, .int e2), (3, .int e3)] [] M Q → jJ Γ GX RX 4 [(0, .ref (jad Γ 29)), (1, .int x1), (2, .int x2), (3, .int x3)] [] M Q) (x1 : Int32) (x2 : Int32) (x3 : Int32) (M : jM) (e2 : Int32) (e3 : Int32) (h : f_X2_hoursOfLightFor_L4_b rec x1 x2 x3 M = some (e2, e3)) (hK : jJ Γ GX RX 35 [(0, .ref (jad Γ 29)), (1, .int x1), (2, .int e2), (3, .int e3)] [] M Q) : jJ Γ GX RX 4 [(0, .ref (jad Γ 29)), (1, .int x1), (2, .int x2), (3, .int x3)] [] M Q := by
  unfold f_X2_hoursOfLightFor_L4_b at h
  refine j_iload_n 3 (pc' := 5) hC dX2_hoursOfLightFor_4 rfl rfl ?_
  refine j_aload_n 0 (pc' := 6) hC dX2_hoursOfLightFor_5 rfl rfl ?_
  refine j_geti' (pc' := 9) hC dX2_hoursOfLightFor_6 rfl fi_X2_15 gx29 ?_
  refine j_icmp_ge (tgt := 35) (pc' := 12) hC dX2_hoursOfLightFor_9 (by decide) rfl (fun c1 => ?_) (fun c1 => ?_)
  · have h := jit_t c1 h
    obtain ⟨q0, q1⟩ := jinj2 h
    subst q0
    subst q1
    refine j_sub [0, 1, 2, 3] rfl ?_
    exact hK
  · have h := jit_f c1 h
    refine j_iload_n 2 (pc' := 13) hC dX2_hoursOfLightFor_12 rfl rfl ?_
    refine j_aload_n 0 (pc' := 14) hC dX2_hoursOfLightFor_13 rfl rfl ?_
    refine j_iload_n 1 (pc' := 15) hC dX2_hoursOfLightFor_14 rfl rfl ?_
    refine j_iload_n 3 (pc' := 16) hC dX2_hoursOfLightFor_15 rfl rfl ?_
    obtain ⟨r2, hc3, h⟩ := jb1_s h
    refine j_callVi [.int x1, .int x3] (pc' := 19) hC dX2_hoursOfLightFor_16 rfl (t_X2_hasLight _ _ hc3) gx29 vcl2 cv_X2_72 ⟨⟨Nat.le_of_ble_eq_true rfl, Nat.le_of_ble_eq_true rfl⟩, rfl, Nat.le_of_ble_eq_true rfl⟩ rfl rfl ?_
    obtain ⟨v5, hm7, h⟩ := jlet_s h
    have K6 : jJ Γ GX RX 27 [(0, .ref (jad Γ 29)), (1, .int x1), (2, .int x2), (3, .int x3)] [.int v5, .int x2] M Q := by
      refine j_iadd (pc' := 28) hC dX2_hoursOfLightFor_27 rfl ?_
      obtain ⟨v9, ev9, h⟩ := jlet_s h
      refine j_istore_n (pc' := 29) hC dX2_hoursOfLightFor_28 rfl ev9 (by decide) rfl ?_
      obtain ⟨v10, ev10, h⟩ := jlet_s h
      refine j_iinc' 3 (c := 1) (pc' := 32) hC dX2_hoursOfLightFor_29 rfl rfl rfl ev10 (by decide) rfl ?_
      refine j_goto (tgt := 4) (pc' := 0) hC dX2_hoursOfLightFor_32 (by decide) ?_
      refine j_sub [2, 3, 1, 0] rfl ?_
      exact ih _ _ _ _ _ _ h hK
    refine j_if_eq (tgt := 26) (pc' := 22) hC dX2_hoursOfLightFor_19 (by decide) rfl (fun c8 => ?_) (fun c8 => ?_)
    · have hm7 := jit_t c8 hm7
      refine j_iconst (v := 0) (pc' := 27) hC dX2_hoursOfLightFor_26 rfl rfl ?_
      subst hm7
      exact j_sub [0, 1, 2, 3] rfl K6
    · have hm7 := jit_f c8 hm7
      refine j_iconst (v := 1) (pc' := 23) hC dX2_hoursOfLightFor_22 rfl rfl ?_
      refine j_goto (tgt := 27) (pc' := 0) hC dX2_hoursOfLightFor_23 (by decide) ?_
      subst hm7
      exact j_sub [0, 1, 2, 3] rfl K6
theorem lp_X2_hoursOfLightFor_L4 {Γ : jG} (hC : jOK Γ cX2_hoursOfLightFor 4 RX2 (some .int) { frames := 2, cells := 0, slots := 0, locals := 43 }) {Q : State → Prop} : ∀ (n : Nat) (x1 : Int32) (x2 : Int32) (x3 : Int32) (M : jM) (e2 : Int32) (e3 : Int32), f_X2_hoursOfLightFor_L4 n x1 x2 x3 M = some (e2, e3) → jJ Γ GX RX 35 [(0, .ref (jad Γ 29)), (1, .int x1), (2, .int e2), (3, .int e3)] [] M Q → jJ Γ GX RX 4 [(0, .ref (jad Γ 29)), (1, .int x1), (2, .int x2), (3, .int x3)] [] M Q := by
  intro n
  induction n with
  | zero =>
    intro x1 x2 x3 M e2 e3 h hK
    exact jno h
  | succ n ih =>
    intro x1 x2 x3 M e2 e3 h hK
    exact lp_X2_hoursOfLightFor_L4_b hC (f_X2_hoursOfLightFor_L4 n) ih x1 x2 x3 M e2 e3 h hK
theorem t_X2_hoursOfLightFor (l : Launch) (E : jE) {a1 : Int32} {M : jM} {r : Int32} (h : f_X2_hoursOfLightFor a1 M = some r) : jCi l yX2_hoursOfLightFor cX2_hoursOfLightFor 4 (some .int) 2 43 E RX GX (fun a _ => [.ref (a 29), .int a1]) M r M := by
  refine jCi_of (own := RX2) (by decide) rfl (fun _ _ => Nat.le_of_ble_eq_true rfl) ?_
  intro Γ hC
  show jJ Γ GX RX 0 [(0, .ref (jad Γ 29)), (1, .int a1)] [] M (jQi Γ RX GX r M)
  unfold f_X2_hoursOfLightFor at h
  refine j_iconst (v := 0) (pc' := 1) hC dX2_hoursOfLightFor_0 rfl rfl ?_
  refine j_istore_n (pc' := 2) hC dX2_hoursOfLightFor_1 rfl rfl (by decide) rfl ?_
  refine j_iconst (v := 0) (pc' := 3) hC dX2_hoursOfLightFor_2 rfl rfl ?_
  refine j_istore_n (pc' := 4) hC dX2_hoursOfLightFor_3 rfl rfl (by decide) rfl ?_
  refine j_sub [2, 3, 1, 0] rfl ?_
  obtain ⟨v1, v2, hm3, h⟩ := jb2_s h
  refine lp_X2_hoursOfLightFor_L4 hC  jfu a1 (0 : Int32) (0 : Int32) M v1 v2 hm3 ?_
  refine j_iload_n 2 (pc' := 36) hC dX2_hoursOfLightFor_35 rfl rfl ?_
  have q8 := jinj1 h
  subst q8
  exact j_iret hC dX2_hoursOfLightFor_36
theorem t_X5_mark (l : Launch) (E : jE) {a1 : Int32} {a2 : Int32} {M : jM} {r : Int32} {M' : jM} (h : f_X5_mark a1 a2 M = some (r, M')) : jCi l yX5_mark cX5_mark 3 (some .int) 6 135 E RX GX (fun a _ => [.ref (a 0), .int a1, .int a2]) M r M' := by
  refine jCi_of (own := RX5) (by decide) rfl (fun _ _ => Nat.le_of_ble_eq_true rfl) ?_
  intro Γ hC
  show jJ Γ GX RX 0 [(0, .ref (jad Γ 0)), (1, .int a1), (2, .int a2)] [] M (jQi Γ RX GX r M')
  unfold f_X5_mark at h
  refine j_aload_n 0 (pc' := 1) hC dX5_mark_0 rfl rfl ?_
  refine j_getr' (o2 := 29) (pc' := 4) hC dX5_mark_1 rfl fi_X5_31 gx0 rfl ?_
  refine j_iload_n 1 (pc' := 5) hC dX5_mark_4 rfl rfl ?_
  obtain ⟨r1, hc2, h⟩ := jb1_s h
  refine j_callVi [.int a1] (pc' := 8) hC dX5_mark_5 rfl (t_X2_hasDeed _ _ hc2) gx29 vcl2 cv_X5_143 ⟨⟨Nat.le_of_ble_eq_true rfl, Nat.le_of_ble_eq_true rfl⟩, rfl, Nat.le_of_ble_eq_true rfl⟩ rfl rfl ?_
  refine j_if_eq (tgt := 21) (pc' := 11) hC dX5_mark_8 (by decide) rfl (fun c3 => ?_) (fun c3 => ?_)
  · have h := jit_t c3 h
    refine j_iconst (v := -1) (pc' := 22) hC dX5_mark_21 rfl rfl ?_
    obtain ⟨q0, q1⟩ := jinj2 h
    subst q0
    subst q1
    exact j_iret hC dX5_mark_22
  · have h := jit_f c3 h
    refine j_iload_n 2 (pc' := 12) hC dX5_mark_11 rfl rfl ?_
    refine j_iconst (v := 1) (pc' := 13) hC dX5_mark_12 rfl rfl ?_
    refine j_icmp_lt (tgt := 21) (pc' := 16) hC dX5_mark_13 (by decide) rfl (fun c4 => ?_) (fun c4 => ?_)
    · have h := jit_t c4 h
      refine j_iconst (v := -1) (pc' := 22) hC dX5_mark_21 rfl rfl ?_
      obtain ⟨q0, q1⟩ := jinj2 h
      subst q0
      subst q1
      exact j_iret hC dX5_mark_22
    · have h := jit_f c4 h
      refine j_iload_n 2 (pc' := 17) hC dX5_mark_16 rfl rfl ?_
      refine j_iconst (v := 5) (pc' := 18) hC dX5_mark_17 rfl rfl ?_
      refine j_icmp_le (tgt := 23) (pc' := 21) hC dX5_mark_18 (by decide) rfl (fun c5 => ?_) (fun c5 => ?_)
      · have h := jit_t c5 h
        refine j_aload_n 0 (pc' := 24) hC dX5_mark_23 rfl rfl ?_
        refine j_getr' (o2 := 29) (pc' := 27) hC dX5_mark_24 rfl fi_X5_31 gx0 rfl ?_
        refine j_iload_n 1 (pc' := 28) hC dX5_mark_27 rfl rfl ?_
        refine j_iload_n 2 (pc' := 29) hC dX5_mark_28 rfl rfl ?_
        obtain ⟨r6, hc7, h⟩ := jb1_s h
        refine j_callVi [.int a1, .int a2] (pc' := 32) hC dX5_mark_29 rfl (t_X2_isOfKind _ _ hc7) gx29 vcl2 cv_X5_156 ⟨⟨Nat.le_of_ble_eq_true rfl, Nat.le_of_ble_eq_true rfl⟩, rfl, Nat.le_of_ble_eq_true rfl⟩ rfl rfl ?_
        refine j_if_ne (tgt := 41) (pc' := 35) hC dX5_mark_32 (by decide) rfl (fun c8 => ?_) (fun c8 => ?_)
        · have h := jit_f c8 h
          refine j_iload_n 2 (pc' := 42) hC dX5_mark_41 rfl rfl ?_
          by_cases c19 : a2 = 1
          · have h := jit_t c19 h
            refine j_tab (tgt := 72) (pc' := 0) hC dX5_mark_42 c19 (by decide) (by decide) rfl (by decide) ?_
            refine j_aload_n 0 (pc' := 73) hC dX5_mark_72 rfl rfl ?_
            refine j_getr' (o2 := 39) (pc' := 76) hC dX5_mark_73 rfl fi_X5_40 gx0 rfl ?_
            refine j_geti' (pc' := 79) hC dX5_mark_76 rfl fi_X5_160 gx39 ?_
            obtain ⟨q0, q1⟩ := jinj2 h
            subst q0
            subst q1
            exact j_iret hC dX5_mark_79
          · have h := jit_f c19 h
            by_cases c20 : a2 = 2
            · have h := jit_t c20 h
              refine j_tab (tgt := 80) (pc' := 0) hC dX5_mark_42 c20 (by decide) (by decide) rfl (by decide) ?_
              refine j_aload_n 0 (pc' := 81) hC dX5_mark_80 rfl rfl ?_
              refine j_iload_n 1 (pc' := 82) hC dX5_mark_81 rfl rfl ?_
              obtain ⟨r9, hc10, h⟩ := jb1_s h
              refine j_callVi [.int a1] (pc' := 85) hC dX5_mark_82 rfl (t_X5_hoursFor _ _ hc10) gx0 vcl5 cv_X5_163 ⟨⟨Nat.le_of_ble_eq_true rfl, Nat.le_of_ble_eq_true rfl⟩, rfl, Nat.le_of_ble_eq_true rfl⟩ rfl rfl ?_
              obtain ⟨q0, q1⟩ := jinj2 h
              subst q0
              subst q1
              exact j_iret hC dX5_mark_85
            · have h := jit_f c20 h
              by_cases c21 : a2 = 3
              · have h := jit_t c21 h
                refine j_tab (tgt := 86) (pc' := 0) hC dX5_mark_42 c21 (by decide) (by decide) rfl (by decide) ?_
                refine j_aload_n 0 (pc' := 87) hC dX5_mark_86 rfl rfl ?_
                refine j_getr' (o2 := 29) (pc' := 90) hC dX5_mark_87 rfl fi_X5_31 gx0 rfl ?_
                refine j_iload_n 1 (pc' := 91) hC dX5_mark_90 rfl rfl ?_
                refine j_aload_n 0 (pc' := 92) hC dX5_mark_91 rfl rfl ?_
                refine j_getr' (o2 := 29) (pc' := 95) hC dX5_mark_92 rfl fi_X5_31 gx0 rfl ?_
                refine j_getr' (o2 := 32) (pc' := 98) hC dX5_mark_95 rfl fi_X5_166 gx29 rfl ?_
                obtain ⟨r11, hc12, h⟩ := jb1_s h
                refine j_callVi [.int a1, .ref (jad Γ 32)] (pc' := 101) hC dX5_mark_98 rfl (t_X2_neededBy _ _ gx32 hc12) gx29 vcl2 cv_X5_169 ⟨⟨Nat.le_of_ble_eq_true rfl, Nat.le_of_ble_eq_true rfl⟩, rfl, Nat.le_of_ble_eq_true rfl⟩ rfl rfl ?_
                obtain ⟨r13, hc14, h⟩ := jb1_s h
                refine j_callSi [.int r11] (pc' := 104) hC dX5_mark_101 rfl (t_J6_bitCount_0f7a4 _ _ hc14) cs_X5_173 ⟨⟨Nat.le_of_ble_eq_true rfl, Nat.le_of_ble_eq_true rfl⟩, rfl, Nat.le_of_ble_eq_true rfl⟩ rfl rfl ?_
                obtain ⟨q0, q1⟩ := jinj2 h
                subst q0
                subst q1
                exact j_iret hC dX5_mark_104
              · have h := jit_f c21 h
                by_cases c22 : a2 = 4
                · have h := jit_t c22 h
                  refine j_tab (tgt := 105) (pc' := 0) hC dX5_mark_42 c22 (by decide) (by decide) rfl (by decide) ?_
                  refine j_aload_n 0 (pc' := 106) hC dX5_mark_105 rfl rfl ?_
                  refine j_getr' (o2 := 29) (pc' := 109) hC dX5_mark_106 rfl fi_X5_31 gx0 rfl ?_
                  refine j_iload_n 1 (pc' := 110) hC dX5_mark_109 rfl rfl ?_
                  refine j_aload_n 0 (pc' := 111) hC dX5_mark_110 rfl rfl ?_
                  refine j_getr' (o2 := 39) (pc' := 114) hC dX5_mark_111 rfl fi_X5_40 gx0 rfl ?_
                  refine j_geti' (pc' := 117) hC dX5_mark_114 rfl fi_X5_178 gx39 ?_
                  obtain ⟨r15, hc16, h⟩ := jb1_s h
                  refine j_callVi [.int a1, .int (gi M 39 10)] (pc' := 120) hC dX5_mark_117 rfl (t_X2_company _ _ hc16) gx29 vcl2 cv_X5_181 ⟨⟨Nat.le_of_ble_eq_true rfl, Nat.le_of_ble_eq_true rfl⟩, rfl, Nat.le_of_ble_eq_true rfl⟩ rfl rfl ?_
                  obtain ⟨q0, q1⟩ := jinj2 h
                  subst q0
                  subst q1
                  exact j_iret hC dX5_mark_120
                · have h := jit_f c22 h
                  refine j_tabOut (tgt := 121) (pc' := 0) hC dX5_mark_42 (by have n0 := jneI (k := 1) rfl c19; have n1 := jneI (k := 2) rfl c20; have n2 := jneI (k := 3) rfl c21; have n3 := jneI (k := 4) rfl c22; omega) (by decide) ?_
                  refine j_aload_n 0 (pc' := 122) hC dX5_mark_121 rfl rfl ?_
                  refine j_getr' (o2 := 29) (pc' := 125) hC dX5_mark_122 rfl fi_X5_31 gx0 rfl ?_
                  refine j_iload_n 1 (pc' := 126) hC dX5_mark_125 rfl rfl ?_
                  obtain ⟨r17, hc18, h⟩ := jb1_s h
                  refine j_callVi [.int a1] (pc' := 129) hC dX5_mark_126 rfl (t_X2_hoursOfLightFor _ _ hc18) gx29 vcl2 cv_X5_184 ⟨⟨Nat.le_of_ble_eq_true rfl, Nat.le_of_ble_eq_true rfl⟩, rfl, Nat.le_of_ble_eq_true rfl⟩ rfl rfl ?_
                  obtain ⟨q0, q1⟩ := jinj2 h
                  subst q0
                  subst q1
                  exact j_iret hC dX5_mark_129
        · have h := jit_t c8 h
          refine j_aload_n 0 (pc' := 36) hC dX5_mark_35 rfl rfl ?_
          refine j_iconst (v := 3) (pc' := 37) hC dX5_mark_36 rfl rfl ?_
          obtain ⟨r23, M24, hc25, h⟩ := jb2_s h
          refine j_callVi [.int (3 : Int32)] (pc' := 40) hC dX5_mark_37 rfl (t_X5_find _ _ hc25) gx0 vcl5 cv_X5_81 ⟨⟨Nat.le_of_ble_eq_true rfl, Nat.le_of_ble_eq_true rfl⟩, rfl, Nat.le_of_ble_eq_true rfl⟩ rfl rfl ?_
          obtain ⟨q0, q1⟩ := jinj2 h
          subst q0
          subst q1
          exact j_iret hC dX5_mark_40
      · have h := jit_f c5 h
        refine j_iconst (v := -1) (pc' := 22) hC dX5_mark_21 rfl rfl ?_
        obtain ⟨q0, q1⟩ := jinj2 h
        subst q0
        subst q1
        exact j_iret hC dX5_mark_22
theorem t_X5_route (l : Launch) (E : jE) {a1 : Int32} {a2 : Int32} {M : jM} {r : Int32} {M' : jM} (h : f_X5_route a1 a2 M = some (r, M')) : jCi l yX5_route cX5_route 4 (some .int) 0 0 E RX GX (fun a _ => [.ref (a 0), .int a1, .int a2]) M r M' := by
  refine jCi_of (own := RX5) (by decide) rfl (fun _ _ => Nat.le_of_ble_eq_true rfl) ?_
  intro Γ hC
  show jJ Γ GX RX 0 [(0, .ref (jad Γ 0)), (1, .int a1), (2, .int a2)] [] M (jQi Γ RX GX r M')
  unfold f_X5_route at h
  refine j_iload_n 1 (pc' := 1) hC dX5_route_0 rfl rfl ?_
  refine j_if_lt (tgt := 19) (pc' := 4) hC dX5_route_1 (by decide) rfl (fun c1 => ?_) (fun c1 => ?_)
  · have h := jit_t c1 h
    refine j_iconst (v := -1) (pc' := 20) hC dX5_route_19 rfl rfl ?_
    obtain ⟨q0, q1⟩ := jinj2 h
    subst q0
    subst q1
    exact j_iret hC dX5_route_20
  · have h := jit_f c1 h
    refine j_iload_n 1 (pc' := 5) hC dX5_route_4 rfl rfl ?_
    refine j_iconst (v := 3) (pc' := 6) hC dX5_route_5 rfl rfl ?_
    refine j_icmp_ge (tgt := 19) (pc' := 9) hC dX5_route_6 (by decide) rfl (fun c2 => ?_) (fun c2 => ?_)
    · have h := jit_t c2 h
      refine j_iconst (v := -1) (pc' := 20) hC dX5_route_19 rfl rfl ?_
      obtain ⟨q0, q1⟩ := jinj2 h
      subst q0
      subst q1
      exact j_iret hC dX5_route_20
    · have h := jit_f c2 h
      refine j_iload_n 2 (pc' := 10) hC dX5_route_9 rfl rfl ?_
      refine j_if_lt (tgt := 19) (pc' := 13) hC dX5_route_10 (by decide) rfl (fun c3 => ?_) (fun c3 => ?_)
      · have h := jit_t c3 h
        refine j_iconst (v := -1) (pc' := 20) hC dX5_route_19 rfl rfl ?_
        obtain ⟨q0, q1⟩ := jinj2 h
        subst q0
        subst q1
        exact j_iret hC dX5_route_20
      · have h := jit_f c3 h
        refine j_iload_n 2 (pc' := 14) hC dX5_route_13 rfl rfl ?_
        refine j_bipush (v := 9) (pc' := 16) hC dX5_route_14 rfl rfl ?_
        refine j_icmp_le (tgt := 21) (pc' := 19) hC dX5_route_16 (by decide) rfl (fun c4 => ?_) (fun c4 => ?_)
        · have h := jit_t c4 h
          refine j_aload_n 0 (pc' := 22) hC dX5_route_21 rfl rfl ?_
          refine j_getr' (o2 := 39) (pc' := 25) hC dX5_route_22 rfl fi_X5_40 gx0 rfl ?_
          refine j_geti' (pc' := 28) hC dX5_route_25 rfl fi_X5_187 gx39 ?_
          refine j_if_le (tgt := 34) (pc' := 31) hC dX5_route_28 (by decide) rfl (fun c5 => ?_) (fun c5 => ?_)
          · have h := jit_t c5 h
            refine j_aload_n 0 (pc' := 35) hC dX5_route_34 rfl rfl ?_
            refine j_getr' (o2 := 39) (pc' := 38) hC dX5_route_35 rfl fi_X5_40 gx0 rfl ?_
            refine j_getr' (o2 := 40) (pc' := 41) hC dX5_route_38 rfl fi_X5_190 gx39 rfl ?_
            refine j_iload_n 1 (pc' := 42) hC dX5_route_41 rfl rfl ?_
            obtain ⟨g6, h⟩ := jg_s h
            refine j_iald (pc' := 43) hC dX5_route_42 rfl gx40 g6 ?_
            obtain ⟨v7, ev7, h⟩ := jlet_s h
            refine j_istore_n (pc' := 44) hC dX5_route_43 rfl ev7 (by decide) rfl ?_
            refine j_aload_n 1 (pc' := 45) hC dX5_route_44 rfl rfl ?_
            refine j_getr' (o2 := 39) (pc' := 48) hC dX5_route_45 rfl fi_X5_40 gx0 rfl ?_
            refine j_getr' (o2 := 40) (pc' := 51) hC dX5_route_48 rfl fi_X5_190 gx39 rfl ?_
            refine j_iload_n 2 (pc' := 52) hC dX5_route_51 rfl rfl ?_
            refine j_iload_n 3 (pc' := 53) hC dX5_route_52 rfl rfl ?_
            obtain ⟨g8, h⟩ := jg_s h
            obtain ⟨M9, eM9, h⟩ := jlet_s h
            refine j_iast' (pc' := 54) hC dX5_route_53 rfl gx40 g8 eM9 ?_
            refine j_iload_n 0 (pc' := 55) hC dX5_route_54 rfl rfl ?_
            obtain ⟨q0, q1⟩ := jinj2 h
            subst q0
            subst q1
            exact j_iret hC dX5_route_55
          · have h := jit_f c5 h
            refine j_bipush (v := -4) (pc' := 33) hC dX5_route_31 rfl rfl ?_
            obtain ⟨q0, q1⟩ := jinj2 h
            subst q0
            subst q1
            exact j_iret hC dX5_route_33
        · have h := jit_f c4 h
          refine j_iconst (v := -1) (pc' := 20) hC dX5_route_19 rfl rfl ?_
          obtain ⟨q0, q1⟩ := jinj2 h
          subst q0
          subst q1
          exact j_iret hC dX5_route_20
theorem t_X0_isFull (l : Launch) (E : jE) {M : jM} {r : Int32} (h : f_X0_isFull M = some r) : jCi l yX0_isFull cX0_isFull 1 (some .boolean) 0 0 E RX GX (fun a _ => [.ref (a 39)]) M r M := by
  refine jCi_of (own := RX0) (by decide) rfl (fun _ _ => Nat.le_of_ble_eq_true rfl) ?_
  intro Γ hC
  show jJ Γ GX RX 0 [(0, .ref (jad Γ 39))] [] M (jQi Γ RX GX r M)
  unfold f_X0_isFull at h
  refine j_aload_n 0 (pc' := 1) hC dX0_isFull_0 rfl rfl ?_
  refine j_geti' (pc' := 4) hC dX0_isFull_1 rfl fi_X0_27 gx39 ?_
  refine j_bipush (v := 40) (pc' := 6) hC dX0_isFull_4 rfl rfl ?_
  refine j_icmp_lt (tgt := 13) (pc' := 9) hC dX0_isFull_6 (by decide) rfl (fun c1 => ?_) (fun c1 => ?_)
  · have h := jit_t c1 h
    refine j_iconst (v := 0) (pc' := 14) hC dX0_isFull_13 rfl rfl ?_
    have q8 := jinj1 h
    subst q8
    exact j_zret hC dX0_isFull_14 (by decide)
  · have h := jit_f c1 h
    refine j_iconst (v := 1) (pc' := 10) hC dX0_isFull_9 rfl rfl ?_
    refine j_goto (tgt := 14) (pc' := 0) hC dX0_isFull_10 (by decide) ?_
    have q8 := jinj1 h
    subst q8
    exact j_zret hC dX0_isFull_14 (by decide)
theorem t_X0_live (l : Launch) (E : jE) {a1 : Int32} {a2 : Int32} {M : jM} {M' : jM} (h : f_X0_live a1 a2 M = some M') : jCv l yX0_live cX0_live 3 (none) 1 23 E RX GX (fun a _ => [.ref (a 39), .int a1, .int a2]) M M' := by
  refine jCv_of (own := RX0) (by decide) rfl (fun _ _ => Nat.le_of_ble_eq_true rfl) ?_
  intro Γ hC
  show jJ Γ GX RX 0 [(0, .ref (jad Γ 39)), (1, .int a1), (2, .int a2)] [] M (jQv Γ RX GX M')
  unfold f_X0_live at h
  refine j_aload_n 0 (pc' := 1) hC dX0_live_0 rfl rfl ?_
  refine j_dup (pc' := 2) hC dX0_live_1 rfl rfl ?_
  refine j_geti' (pc' := 5) hC dX0_live_2 rfl fi_X0_34 gx39 ?_
  refine j_iconst (v := 1) (pc' := 6) hC dX0_live_5 rfl rfl ?_
  refine j_iload_n 1 (pc' := 7) hC dX0_live_6 rfl rfl ?_
  refine j_ishl (pc' := 8) hC dX0_live_7 rfl ?_
  refine j_ior (pc' := 9) hC dX0_live_8 rfl ?_
  obtain ⟨M1, eM1, h⟩ := jlet_s h
  refine j_puti' (pc' := 12) hC dX0_live_9 rfl fp_X0_34 gx39 eM1 ?_
  refine j_aload_n 0 (pc' := 13) hC dX0_live_12 rfl rfl ?_
  refine j_dup (pc' := 14) hC dX0_live_13 rfl rfl ?_
  refine j_geti' (pc' := 17) hC dX0_live_14 rfl fi_X0_43 gx39 ?_
  refine j_iconst (v := 1) (pc' := 18) hC dX0_live_17 rfl rfl ?_
  refine j_iadd (pc' := 19) hC dX0_live_18 rfl ?_
  obtain ⟨M2, eM2, h⟩ := jlet_s h
  refine j_puti' (pc' := 22) hC dX0_live_19 rfl fp_X0_43 gx39 eM2 ?_
  refine j_aload_n 0 (pc' := 23) hC dX0_live_22 rfl rfl ?_
  refine j_getr' (o2 := 29) (pc' := 26) hC dX0_live_23 rfl fi_X0_46 gx39 rfl ?_
  refine j_iload_n 2 (pc' := 27) hC dX0_live_26 rfl rfl ?_
  obtain ⟨r3, hc4, h⟩ := jb1_s h
  refine j_callVi [.int a2] (pc' := 30) hC dX0_live_27 rfl (t_X2_hasDeed _ _ hc4) gx29 vcl2 cv_X0_76 ⟨⟨Nat.le_of_ble_eq_true rfl, Nat.le_of_ble_eq_true rfl⟩, rfl, Nat.le_of_ble_eq_true rfl⟩ rfl rfl ?_
  refine j_if_eq (tgt := 44) (pc' := 33) hC dX0_live_30 (by decide) rfl (fun c5 => ?_) (fun c5 => ?_)
  · have h := jit_t c5 h
    have q8 := jinj1 h
    subst q8
    exact j_vret hC dX0_live_44
  · have h := jit_f c5 h
    refine j_aload_n 0 (pc' := 34) hC dX0_live_33 rfl rfl ?_
    refine j_getr' (o2 := 29) (pc' := 37) hC dX0_live_34 rfl fi_X0_46 gx39 rfl ?_
    refine j_iload_n 1 (pc' := 38) hC dX0_live_37 rfl rfl ?_
    obtain ⟨r6, hc7, h⟩ := jb1_s h
    refine j_callVi [.int a1] (pc' := 41) hC dX0_live_38 rfl (t_X2_hasHour _ _ hc7) gx29 vcl2 cv_X0_82 ⟨⟨Nat.le_of_ble_eq_true rfl, Nat.le_of_ble_eq_true rfl⟩, rfl, Nat.le_of_ble_eq_true rfl⟩ rfl rfl ?_
    refine j_if_ne (tgt := 45) (pc' := 44) hC dX0_live_41 (by decide) rfl (fun c8 => ?_) (fun c8 => ?_)
    · have h := jit_f c8 h
      refine j_aload_n 0 (pc' := 46) hC dX0_live_45 rfl rfl ?_
      refine j_getr' (o2 := 44) (pc' := 49) hC dX0_live_46 rfl fi_X0_24 gx39 rfl ?_
      refine j_iload_n 1 (pc' := 50) hC dX0_live_49 rfl rfl ?_
      refine j_iload_n 2 (pc' := 51) hC dX0_live_50 rfl rfl ?_
      obtain ⟨g9, h⟩ := jg_s h
      obtain ⟨M10, eM10, h⟩ := jlet_s h
      refine j_iast' (pc' := 52) hC dX0_live_51 rfl gx44 g9 eM10 ?_
      refine j_aload_n 0 (pc' := 53) hC dX0_live_52 rfl rfl ?_
      refine j_dup (pc' := 54) hC dX0_live_53 rfl rfl ?_
      refine j_geti' (pc' := 57) hC dX0_live_54 rfl fi_X0_40 gx39 ?_
      refine j_iconst (v := 1) (pc' := 58) hC dX0_live_57 rfl rfl ?_
      refine j_iload_n 2 (pc' := 59) hC dX0_live_58 rfl rfl ?_
      refine j_ishl (pc' := 60) hC dX0_live_59 rfl ?_
      refine j_ior (pc' := 61) hC dX0_live_60 rfl ?_
      obtain ⟨M11, eM11, h⟩ := jlet_s h
      refine j_puti' (pc' := 64) hC dX0_live_61 rfl fp_X0_40 gx39 eM11 ?_
      refine j_aload_n 0 (pc' := 65) hC dX0_live_64 rfl rfl ?_
      refine j_getr' (o2 := 29) (pc' := 68) hC dX0_live_65 rfl fi_X0_46 gx39 rfl ?_
      refine j_iload_n 2 (pc' := 69) hC dX0_live_68 rfl rfl ?_
      refine j_iconst (v := 1) (pc' := 70) hC dX0_live_69 rfl rfl ?_
      obtain ⟨r12, hc13, h⟩ := jb1_s h
      refine j_callVi [.int a2, .int (1 : Int32)] (pc' := 73) hC dX0_live_70 rfl (t_X2_isOfKind _ _ hc13) gx29 vcl2 cv_X0_85 ⟨⟨Nat.le_of_ble_eq_true rfl, Nat.le_of_ble_eq_true rfl⟩, rfl, Nat.le_of_ble_eq_true rfl⟩ rfl rfl ?_
      refine j_if_eq (tgt := 81) (pc' := 76) hC dX0_live_73 (by decide) rfl (fun c14 => ?_) (fun c14 => ?_)
      · have h := jit_t c14 h
        have q8 := jinj1 h
        subst q8
        exact j_vret hC dX0_live_81
      · have h := jit_f c14 h
        refine j_aload_n 0 (pc' := 77) hC dX0_live_76 rfl rfl ?_
        refine j_iconst (v := 0) (pc' := 78) hC dX0_live_77 rfl rfl ?_
        obtain ⟨M15, eM15, h⟩ := jlet_s h
        refine j_puti' (pc' := 81) hC dX0_live_78 rfl fp_X0_43 gx39 eM15 ?_
        have q8 := jinj1 h
        subst q8
        exact j_vret hC dX0_live_81
    · have h := jit_t c8 h
      have q8 := jinj1 h
      subst q8
      exact j_vret hC dX0_live_44
theorem t_X0_take (l : Launch) (E : jE) {a1 : Int32} {a2 : Int32} {a3 : Int32} {M : jM} {M' : jM} (h : f_X0_take a1 a2 a3 M = some M') : jCv l yX0_take cX0_take 4 (none) 2 45 E RX GX (fun a _ => [.ref (a 39), .int a1, .int a2, .int a3]) M M' := by
  refine jCv_of (own := RX0) (by decide) rfl (fun _ _ => Nat.le_of_ble_eq_true rfl) ?_
  intro Γ hC
  show jJ Γ GX RX 0 [(0, .ref (jad Γ 39)), (1, .int a1), (2, .int a2), (3, .int a3)] [] M (jQv Γ RX GX M')
  unfold f_X0_take at h
  refine j_aload_n 0 (pc' := 1) hC dX0_take_0 rfl rfl ?_
  obtain ⟨r1, hc2, h⟩ := jb1_s h
  refine j_callVi [] (pc' := 4) hC dX0_take_1 rfl (t_X0_isFull _ _ hc2) gx39 vcl0 cv_X0_68 ⟨⟨Nat.le_of_ble_eq_true rfl, Nat.le_of_ble_eq_true rfl⟩, rfl, Nat.le_of_ble_eq_true rfl⟩ rfl rfl ?_
  refine j_if_eq (tgt := 8) (pc' := 7) hC dX0_take_4 (by decide) rfl (fun c3 => ?_) (fun c3 => ?_)
  · have h := jit_t c3 h
    refine j_aload_n 0 (pc' := 9) hC dX0_take_8 rfl rfl ?_
    refine j_getr' (o2 := 41) (pc' := 12) hC dX0_take_9 rfl fi_X0_15 gx39 rfl ?_
    refine j_aload_n 0 (pc' := 13) hC dX0_take_12 rfl rfl ?_
    refine j_geti' (pc' := 16) hC dX0_take_13 rfl fi_X0_27 gx39 ?_
    refine j_iload_n 1 (pc' := 17) hC dX0_take_16 rfl rfl ?_
    obtain ⟨g4, h⟩ := jg_s h
    obtain ⟨M5, eM5, h⟩ := jlet_s h
    refine j_iast' (pc' := 18) hC dX0_take_17 rfl gx41 g4 eM5 ?_
    refine j_aload_n 0 (pc' := 19) hC dX0_take_18 rfl rfl ?_
    refine j_getr' (o2 := 42) (pc' := 22) hC dX0_take_19 rfl fi_X0_18 gx39 rfl ?_
    refine j_aload_n 0 (pc' := 23) hC dX0_take_22 rfl rfl ?_
    refine j_geti' (pc' := 26) hC dX0_take_23 rfl fi_X0_27 gx39 ?_
    refine j_iload_n 2 (pc' := 27) hC dX0_take_26 rfl rfl ?_
    obtain ⟨g6, h⟩ := jg_s h
    obtain ⟨M7, eM7, h⟩ := jlet_s h
    refine j_iast' (pc' := 28) hC dX0_take_27 rfl gx42 g6 eM7 ?_
    refine j_aload_n 0 (pc' := 29) hC dX0_take_28 rfl rfl ?_
    refine j_getr' (o2 := 43) (pc' := 32) hC dX0_take_29 rfl fi_X0_21 gx39 rfl ?_
    refine j_aload_n 0 (pc' := 33) hC dX0_take_32 rfl rfl ?_
    refine j_geti' (pc' := 36) hC dX0_take_33 rfl fi_X0_27 gx39 ?_
    refine j_iload_n 3 (pc' := 37) hC dX0_take_36 rfl rfl ?_
    obtain ⟨g8, h⟩ := jg_s h
    obtain ⟨M9, eM9, h⟩ := jlet_s h
    refine j_iast' (pc' := 38) hC dX0_take_37 rfl gx43 g8 eM9 ?_
    refine j_aload_n 0 (pc' := 39) hC dX0_take_38 rfl rfl ?_
    refine j_dup (pc' := 40) hC dX0_take_39 rfl rfl ?_
    refine j_geti' (pc' := 43) hC dX0_take_40 rfl fi_X0_27 gx39 ?_
    refine j_iconst (v := 1) (pc' := 44) hC dX0_take_43 rfl rfl ?_
    refine j_iadd (pc' := 45) hC dX0_take_44 rfl ?_
    obtain ⟨M10, eM10, h⟩ := jlet_s h
    refine j_puti' (pc' := 48) hC dX0_take_45 rfl fp_X0_27 gx39 eM10 ?_
    refine j_iload_n 1 (pc' := 49) hC dX0_take_48 rfl rfl ?_
    refine j_if_ne (tgt := 65) (pc' := 52) hC dX0_take_49 (by decide) rfl (fun c11 => ?_) (fun c11 => ?_)
    · have h := jit_f c11 h
      refine j_iload_n 1 (pc' := 66) hC dX0_take_65 rfl rfl ?_
      refine j_iconst (v := 2) (pc' := 67) hC dX0_take_66 rfl rfl ?_
      refine j_icmp_ne (tgt := 85) (pc' := 70) hC dX0_take_67 (by decide) rfl (fun c12 => ?_) (fun c12 => ?_)
      · have h := jit_f c12 h
        refine j_aload_n 0 (pc' := 86) hC dX0_take_85 rfl rfl ?_
        refine j_iload_n 2 (pc' := 87) hC dX0_take_86 rfl rfl ?_
        refine j_iload_n 3 (pc' := 88) hC dX0_take_87 rfl rfl ?_
        obtain ⟨M13, hc14, h⟩ := jb1_s h
        refine j_callVv [.int a2, .int a3] (pc' := 91) hC dX0_take_88 rfl (t_X0_live _ _ hc14) gx39 vcl0 cv_X0_72 ⟨⟨Nat.le_of_ble_eq_true rfl, Nat.le_of_ble_eq_true rfl⟩, rfl, Nat.le_of_ble_eq_true rfl⟩ rfl rfl ?_
        have q8 := jinj1 h
        subst q8
        exact j_vret hC dX0_take_91
      · have h := jit_t c12 h
        refine j_aload_n 0 (pc' := 71) hC dX0_take_70 rfl rfl ?_
        refine j_dup (pc' := 72) hC dX0_take_71 rfl rfl ?_
        refine j_geti' (pc' := 75) hC dX0_take_72 rfl fi_X0_37 gx39 ?_
        refine j_iconst (v := 1) (pc' := 76) hC dX0_take_75 rfl rfl ?_
        refine j_iload_n 2 (pc' := 77) hC dX0_take_76 rfl rfl ?_
        refine j_ishl (pc' := 78) hC dX0_take_77 rfl ?_
        refine j_ior (pc' := 79) hC dX0_take_78 rfl ?_
        obtain ⟨M15, eM15, h⟩ := jlet_s h
        refine j_puti' (pc' := 82) hC dX0_take_79 rfl fp_X0_37 gx39 eM15 ?_
        refine j_goto (tgt := 91) (pc' := 0) hC dX0_take_82 (by decide) ?_
        have q8 := jinj1 h
        subst q8
        exact j_vret hC dX0_take_91
    · have h := jit_t c11 h
      refine j_aload_n 0 (pc' := 53) hC dX0_take_52 rfl rfl ?_
      refine j_dup (pc' := 54) hC dX0_take_53 rfl rfl ?_
      refine j_geti' (pc' := 57) hC dX0_take_54 rfl fi_X0_31 gx39 ?_
      refine j_iconst (v := 1) (pc' := 58) hC dX0_take_57 rfl rfl ?_
      refine j_iadd (pc' := 59) hC dX0_take_58 rfl ?_
      obtain ⟨M16, eM16, h⟩ := jlet_s h
      refine j_puti' (pc' := 62) hC dX0_take_59 rfl fp_X0_31 gx39 eM16 ?_
      refine j_goto (tgt := 91) (pc' := 0) hC dX0_take_62 (by decide) ?_
      have q8 := jinj1 h
      subst q8
      exact j_vret hC dX0_take_91
  · have h := jit_f c3 h
    have q8 := jinj1 h
    subst q8
    exact j_vret hC dX0_take_7
theorem t_X5_day (l : Launch) (E : jE) {M : jM} {r : Int32} {M' : jM} (h : f_X5_day M = some (r, M')) : jCi l yX5_day cX5_day 1 (some .int) 3 68 E RX GX (fun a _ => [.ref (a 0)]) M r M' := by
  refine jCi_of (own := RX5) (by decide) rfl (fun _ _ => Nat.le_of_ble_eq_true rfl) ?_
  intro Γ hC
  show jJ Γ GX RX 0 [(0, .ref (jad Γ 0))] [] M (jQi Γ RX GX r M')
  unfold f_X5_day at h
  refine j_aload_n 0 (pc' := 1) hC dX5_day_0 rfl rfl ?_
  refine j_getr' (o2 := 29) (pc' := 4) hC dX5_day_1 rfl fi_X5_31 gx0 rfl ?_
  refine j_geti' (pc' := 7) hC dX5_day_4 rfl fi_X5_140 gx29 ?_
  refine j_if_ne (tgt := 13) (pc' := 10) hC dX5_day_7 (by decide) rfl (fun c1 => ?_) (fun c1 => ?_)
  · have h := jit_f c1 h
    refine j_aload_n 0 (pc' := 14) hC dX5_day_13 rfl rfl ?_
    refine j_getr' (o2 := 39) (pc' := 17) hC dX5_day_14 rfl fi_X5_40 gx0 rfl ?_
    obtain ⟨r2, hc3, h⟩ := jb1_s h
    refine j_callVi [] (pc' := 20) hC dX5_day_17 rfl (t_X0_isFull _ _ hc3) gx39 vcl0 cv_X5_193 ⟨⟨Nat.le_of_ble_eq_true rfl, Nat.le_of_ble_eq_true rfl⟩, rfl, Nat.le_of_ble_eq_true rfl⟩ rfl rfl ?_
    refine j_if_eq (tgt := 26) (pc' := 23) hC dX5_day_20 (by decide) rfl (fun c4 => ?_) (fun c4 => ?_)
    · have h := jit_t c4 h
      refine j_aload_n 0 (pc' := 27) hC dX5_day_26 rfl rfl ?_
      refine j_getr' (o2 := 39) (pc' := 30) hC dX5_day_27 rfl fi_X5_40 gx0 rfl ?_
      refine j_iconst (v := 0) (pc' := 31) hC dX5_day_30 rfl rfl ?_
      refine j_bipush (v := -9) (pc' := 33) hC dX5_day_31 rfl rfl ?_
      refine j_bipush (v := -9) (pc' := 35) hC dX5_day_33 rfl rfl ?_
      obtain ⟨M5, hc6, h⟩ := jb1_s h
      refine j_callVv [.int (0 : Int32), .int (-9 : Int32), .int (-9 : Int32)] (pc' := 38) hC dX5_day_35 rfl (t_X0_take _ _ hc6) gx39 vcl0 cv_X5_197 ⟨⟨Nat.le_of_ble_eq_true rfl, Nat.le_of_ble_eq_true rfl⟩, rfl, Nat.le_of_ble_eq_true rfl⟩ rfl rfl ?_
      refine j_aload_n 0 (pc' := 39) hC dX5_day_38 rfl rfl ?_
      refine j_getr' (o2 := 39) (pc' := 42) hC dX5_day_39 rfl fi_X5_40 gx0 rfl ?_
      refine j_geti' (pc' := 45) hC dX5_day_42 rfl fi_X5_200 gx39 ?_
      obtain ⟨q0, q1⟩ := jinj2 h
      subst q0
      subst q1
      exact j_iret hC dX5_day_45
    · have h := jit_f c4 h
      refine j_bipush (v := -2) (pc' := 25) hC dX5_day_23 rfl rfl ?_
      obtain ⟨q0, q1⟩ := jinj2 h
      subst q0
      subst q1
      exact j_iret hC dX5_day_25
  · have h := jit_t c1 h
    refine j_bipush (v := -4) (pc' := 12) hC dX5_day_10 rfl rfl ?_
    obtain ⟨q0, q1⟩ := jinj2 h
    subst q0
    subst q1
    exact j_iret hC dX5_day_12
theorem t_X5_open (l : Launch) (E : jE) {a1 : Int32} {a2 : Int32} {M : jM} {r : Int32} {M' : jM} (h : f_X5_open a1 a2 M = some (r, M')) : jCi l yX5_open cX5_open 3 (some .int) 5 111 E RX GX (fun a _ => [.ref (a 0), .int a1, .int a2]) M r M' := by
  refine jCi_of (own := RX5) (by decide) rfl (fun _ _ => Nat.le_of_ble_eq_true rfl) ?_
  intro Γ hC
  show jJ Γ GX RX 0 [(0, .ref (jad Γ 0)), (1, .int a1), (2, .int a2)] [] M (jQi Γ RX GX r M')
  unfold f_X5_open at h
  refine j_aload_n 0 (pc' := 1) hC dX5_open_0 rfl rfl ?_
  refine j_getr' (o2 := 29) (pc' := 4) hC dX5_open_1 rfl fi_X5_31 gx0 rfl ?_
  refine j_iload_n 1 (pc' := 5) hC dX5_open_4 rfl rfl ?_
  obtain ⟨r1, hc2, h⟩ := jb1_s h
  refine j_callVi [.int a1] (pc' := 8) hC dX5_open_5 rfl (t_X2_hasHour _ _ hc2) gx29 vcl2 cv_X5_150 ⟨⟨Nat.le_of_ble_eq_true rfl, Nat.le_of_ble_eq_true rfl⟩, rfl, Nat.le_of_ble_eq_true rfl⟩ rfl rfl ?_
  refine j_if_eq (tgt := 28) (pc' := 11) hC dX5_open_8 (by decide) rfl (fun c3 => ?_) (fun c3 => ?_)
  · have h := jit_t c3 h
    refine j_iconst (v := -1) (pc' := 29) hC dX5_open_28 rfl rfl ?_
    obtain ⟨q0, q1⟩ := jinj2 h
    subst q0
    subst q1
    exact j_iret hC dX5_open_29
  · have h := jit_f c3 h
    refine j_iload_n 2 (pc' := 12) hC dX5_open_11 rfl rfl ?_
    refine j_bipush (v := -9) (pc' := 14) hC dX5_open_12 rfl rfl ?_
    refine j_icmp_eq (tgt := 30) (pc' := 17) hC dX5_open_14 (by decide) rfl (fun c4 => ?_) (fun c4 => ?_)
    · have h := jit_t c4 h
      refine j_aload_n 0 (pc' := 31) hC dX5_open_30 rfl rfl ?_
      refine j_getr' (o2 := 39) (pc' := 34) hC dX5_open_31 rfl fi_X5_40 gx0 rfl ?_
      refine j_iload_n 1 (pc' := 35) hC dX5_open_34 rfl rfl ?_
      obtain ⟨r5, hc6, h⟩ := jb1_s h
      refine j_callVi [.int a1] (pc' := 38) hC dX5_open_35 rfl (t_X0_whereIs _ _ hc6) gx39 vcl0 cv_X5_203 ⟨⟨Nat.le_of_ble_eq_true rfl, Nat.le_of_ble_eq_true rfl⟩, rfl, Nat.le_of_ble_eq_true rfl⟩ rfl rfl ?_
      refine j_iconst (v := 1) (pc' := 39) hC dX5_open_38 rfl rfl ?_
      refine j_icmp_ne (tgt := 60) (pc' := 42) hC dX5_open_39 (by decide) rfl (fun c7 => ?_) (fun c7 => ?_)
      · have h := jit_f c7 h
        refine j_bipush (v := -4) (pc' := 62) hC dX5_open_60 rfl rfl ?_
        obtain ⟨q0, q1⟩ := jinj2 h
        subst q0
        subst q1
        exact j_iret hC dX5_open_62
      · have h := jit_t c7 h
        refine j_iload_n 2 (pc' := 43) hC dX5_open_42 rfl rfl ?_
        refine j_bipush (v := -9) (pc' := 45) hC dX5_open_43 rfl rfl ?_
        refine j_icmp_eq (tgt := 63) (pc' := 48) hC dX5_open_45 (by decide) rfl (fun c8 => ?_) (fun c8 => ?_)
        · have h := jit_t c8 h
          refine j_aload_n 0 (pc' := 64) hC dX5_open_63 rfl rfl ?_
          refine j_getr' (o2 := 39) (pc' := 67) hC dX5_open_64 rfl fi_X5_40 gx0 rfl ?_
          obtain ⟨r9, hc10, h⟩ := jb1_s h
          refine j_callVi [] (pc' := 70) hC dX5_open_67 rfl (t_X0_isFull _ _ hc10) gx39 vcl0 cv_X5_193 ⟨⟨Nat.le_of_ble_eq_true rfl, Nat.le_of_ble_eq_true rfl⟩, rfl, Nat.le_of_ble_eq_true rfl⟩ rfl rfl ?_
          refine j_if_eq (tgt := 76) (pc' := 73) hC dX5_open_70 (by decide) rfl (fun c11 => ?_) (fun c11 => ?_)
          · have h := jit_t c11 h
            refine j_aload_n 0 (pc' := 77) hC dX5_open_76 rfl rfl ?_
            refine j_getr' (o2 := 39) (pc' := 80) hC dX5_open_77 rfl fi_X5_40 gx0 rfl ?_
            refine j_iconst (v := 1) (pc' := 81) hC dX5_open_80 rfl rfl ?_
            refine j_iload_n 1 (pc' := 82) hC dX5_open_81 rfl rfl ?_
            refine j_iload_n 2 (pc' := 83) hC dX5_open_82 rfl rfl ?_
            obtain ⟨M12, hc13, h⟩ := jb1_s h
            refine j_callVv [.int (1 : Int32), .int a1, .int a2] (pc' := 86) hC dX5_open_83 rfl (t_X0_take _ _ hc13) gx39 vcl0 cv_X5_197 ⟨⟨Nat.le_of_ble_eq_true rfl, Nat.le_of_ble_eq_true rfl⟩, rfl, Nat.le_of_ble_eq_true rfl⟩ rfl rfl ?_
            refine j_aload_n 0 (pc' := 87) hC dX5_open_86 rfl rfl ?_
            refine j_getr' (o2 := 39) (pc' := 90) hC dX5_open_87 rfl fi_X5_40 gx0 rfl ?_
            refine j_geti' (pc' := 93) hC dX5_open_90 rfl fi_X5_178 gx39 ?_
            obtain ⟨q0, q1⟩ := jinj2 h
            subst q0
            subst q1
            exact j_iret hC dX5_open_93
          · have h := jit_f c11 h
            refine j_bipush (v := -2) (pc' := 75) hC dX5_open_73 rfl rfl ?_
            obtain ⟨q0, q1⟩ := jinj2 h
            subst q0
            subst q1
            exact j_iret hC dX5_open_75
        · have h := jit_f c8 h
          refine j_aload_n 0 (pc' := 49) hC dX5_open_48 rfl rfl ?_
          refine j_getr' (o2 := 39) (pc' := 52) hC dX5_open_49 rfl fi_X5_40 gx0 rfl ?_
          refine j_iload_n 2 (pc' := 53) hC dX5_open_52 rfl rfl ?_
          refine j_iload_n 1 (pc' := 54) hC dX5_open_53 rfl rfl ?_
          obtain ⟨r14, hc15, h⟩ := jb1_s h
          refine j_callVi [.int a2, .int a1] (pc' := 57) hC dX5_open_54 rfl (t_X0_hindrance _ _ hc15) gx39 vcl0 cv_X5_206 ⟨⟨Nat.le_of_ble_eq_true rfl, Nat.le_of_ble_eq_true rfl⟩, rfl, Nat.le_of_ble_eq_true rfl⟩ rfl rfl ?_
          refine j_if_eq (tgt := 63) (pc' := 60) hC dX5_open_57 (by decide) rfl (fun c16 => ?_) (fun c16 => ?_)
          · have h := jit_t c16 h
            refine j_aload_n 0 (pc' := 64) hC dX5_open_63 rfl rfl ?_
            refine j_getr' (o2 := 39) (pc' := 67) hC dX5_open_64 rfl fi_X5_40 gx0 rfl ?_
            obtain ⟨r17, hc18, h⟩ := jb1_s h
            refine j_callVi [] (pc' := 70) hC dX5_open_67 rfl (t_X0_isFull _ _ hc18) gx39 vcl0 cv_X5_193 ⟨⟨Nat.le_of_ble_eq_true rfl, Nat.le_of_ble_eq_true rfl⟩, rfl, Nat.le_of_ble_eq_true rfl⟩ rfl rfl ?_
            refine j_if_eq (tgt := 76) (pc' := 73) hC dX5_open_70 (by decide) rfl (fun c19 => ?_) (fun c19 => ?_)
            · have h := jit_t c19 h
              refine j_aload_n 0 (pc' := 77) hC dX5_open_76 rfl rfl ?_
              refine j_getr' (o2 := 39) (pc' := 80) hC dX5_open_77 rfl fi_X5_40 gx0 rfl ?_
              refine j_iconst (v := 1) (pc' := 81) hC dX5_open_80 rfl rfl ?_
              refine j_iload_n 1 (pc' := 82) hC dX5_open_81 rfl rfl ?_
              refine j_iload_n 2 (pc' := 83) hC dX5_open_82 rfl rfl ?_
              obtain ⟨M20, hc21, h⟩ := jb1_s h
              refine j_callVv [.int (1 : Int32), .int a1, .int a2] (pc' := 86) hC dX5_open_83 rfl (t_X0_take _ _ hc21) gx39 vcl0 cv_X5_197 ⟨⟨Nat.le_of_ble_eq_true rfl, Nat.le_of_ble_eq_true rfl⟩, rfl, Nat.le_of_ble_eq_true rfl⟩ rfl rfl ?_
              refine j_aload_n 0 (pc' := 87) hC dX5_open_86 rfl rfl ?_
              refine j_getr' (o2 := 39) (pc' := 90) hC dX5_open_87 rfl fi_X5_40 gx0 rfl ?_
              refine j_geti' (pc' := 93) hC dX5_open_90 rfl fi_X5_178 gx39 ?_
              obtain ⟨q0, q1⟩ := jinj2 h
              subst q0
              subst q1
              exact j_iret hC dX5_open_93
            · have h := jit_f c19 h
              refine j_bipush (v := -2) (pc' := 75) hC dX5_open_73 rfl rfl ?_
              obtain ⟨q0, q1⟩ := jinj2 h
              subst q0
              subst q1
              exact j_iret hC dX5_open_75
          · have h := jit_f c16 h
            refine j_bipush (v := -4) (pc' := 62) hC dX5_open_60 rfl rfl ?_
            obtain ⟨q0, q1⟩ := jinj2 h
            subst q0
            subst q1
            exact j_iret hC dX5_open_62
    · have h := jit_f c4 h
      refine j_aload_n 0 (pc' := 18) hC dX5_open_17 rfl rfl ?_
      refine j_getr' (o2 := 29) (pc' := 21) hC dX5_open_18 rfl fi_X5_31 gx0 rfl ?_
      refine j_iload_n 2 (pc' := 22) hC dX5_open_21 rfl rfl ?_
      obtain ⟨r22, hc23, h⟩ := jb1_s h
      refine j_callVi [.int a2] (pc' := 25) hC dX5_open_22 rfl (t_X2_hasDeed _ _ hc23) gx29 vcl2 cv_X5_143 ⟨⟨Nat.le_of_ble_eq_true rfl, Nat.le_of_ble_eq_true rfl⟩, rfl, Nat.le_of_ble_eq_true rfl⟩ rfl rfl ?_
      refine j_if_ne (tgt := 30) (pc' := 28) hC dX5_open_25 (by decide) rfl (fun c24 => ?_) (fun c24 => ?_)
      · have h := jit_f c24 h
        refine j_aload_n 0 (pc' := 31) hC dX5_open_30 rfl rfl ?_
        refine j_getr' (o2 := 39) (pc' := 34) hC dX5_open_31 rfl fi_X5_40 gx0 rfl ?_
        refine j_iload_n 1 (pc' := 35) hC dX5_open_34 rfl rfl ?_
        obtain ⟨r25, hc26, h⟩ := jb1_s h
        refine j_callVi [.int a1] (pc' := 38) hC dX5_open_35 rfl (t_X0_whereIs _ _ hc26) gx39 vcl0 cv_X5_203 ⟨⟨Nat.le_of_ble_eq_true rfl, Nat.le_of_ble_eq_true rfl⟩, rfl, Nat.le_of_ble_eq_true rfl⟩ rfl rfl ?_
        refine j_iconst (v := 1) (pc' := 39) hC dX5_open_38 rfl rfl ?_
        refine j_icmp_ne (tgt := 60) (pc' := 42) hC dX5_open_39 (by decide) rfl (fun c27 => ?_) (fun c27 => ?_)
        · have h := jit_f c27 h
          refine j_bipush (v := -4) (pc' := 62) hC dX5_open_60 rfl rfl ?_
          obtain ⟨q0, q1⟩ := jinj2 h
          subst q0
          subst q1
          exact j_iret hC dX5_open_62
        · have h := jit_t c27 h
          refine j_iload_n 2 (pc' := 43) hC dX5_open_42 rfl rfl ?_
          refine j_bipush (v := -9) (pc' := 45) hC dX5_open_43 rfl rfl ?_
          refine j_icmp_eq (tgt := 63) (pc' := 48) hC dX5_open_45 (by decide) rfl (fun c28 => ?_) (fun c28 => ?_)
          · have h := jit_t c28 h
            refine j_aload_n 0 (pc' := 64) hC dX5_open_63 rfl rfl ?_
            refine j_getr' (o2 := 39) (pc' := 67) hC dX5_open_64 rfl fi_X5_40 gx0 rfl ?_
            obtain ⟨r29, hc30, h⟩ := jb1_s h
            refine j_callVi [] (pc' := 70) hC dX5_open_67 rfl (t_X0_isFull _ _ hc30) gx39 vcl0 cv_X5_193 ⟨⟨Nat.le_of_ble_eq_true rfl, Nat.le_of_ble_eq_true rfl⟩, rfl, Nat.le_of_ble_eq_true rfl⟩ rfl rfl ?_
            refine j_if_eq (tgt := 76) (pc' := 73) hC dX5_open_70 (by decide) rfl (fun c31 => ?_) (fun c31 => ?_)
            · have h := jit_t c31 h
              refine j_aload_n 0 (pc' := 77) hC dX5_open_76 rfl rfl ?_
              refine j_getr' (o2 := 39) (pc' := 80) hC dX5_open_77 rfl fi_X5_40 gx0 rfl ?_
              refine j_iconst (v := 1) (pc' := 81) hC dX5_open_80 rfl rfl ?_
              refine j_iload_n 1 (pc' := 82) hC dX5_open_81 rfl rfl ?_
              refine j_iload_n 2 (pc' := 83) hC dX5_open_82 rfl rfl ?_
              obtain ⟨M32, hc33, h⟩ := jb1_s h
              refine j_callVv [.int (1 : Int32), .int a1, .int a2] (pc' := 86) hC dX5_open_83 rfl (t_X0_take _ _ hc33) gx39 vcl0 cv_X5_197 ⟨⟨Nat.le_of_ble_eq_true rfl, Nat.le_of_ble_eq_true rfl⟩, rfl, Nat.le_of_ble_eq_true rfl⟩ rfl rfl ?_
              refine j_aload_n 0 (pc' := 87) hC dX5_open_86 rfl rfl ?_
              refine j_getr' (o2 := 39) (pc' := 90) hC dX5_open_87 rfl fi_X5_40 gx0 rfl ?_
              refine j_geti' (pc' := 93) hC dX5_open_90 rfl fi_X5_178 gx39 ?_
              obtain ⟨q0, q1⟩ := jinj2 h
              subst q0
              subst q1
              exact j_iret hC dX5_open_93
            · have h := jit_f c31 h
              refine j_bipush (v := -2) (pc' := 75) hC dX5_open_73 rfl rfl ?_
              obtain ⟨q0, q1⟩ := jinj2 h
              subst q0
              subst q1
              exact j_iret hC dX5_open_75
          · have h := jit_f c28 h
            refine j_aload_n 0 (pc' := 49) hC dX5_open_48 rfl rfl ?_
            refine j_getr' (o2 := 39) (pc' := 52) hC dX5_open_49 rfl fi_X5_40 gx0 rfl ?_
            refine j_iload_n 2 (pc' := 53) hC dX5_open_52 rfl rfl ?_
            refine j_iload_n 1 (pc' := 54) hC dX5_open_53 rfl rfl ?_
            obtain ⟨r34, hc35, h⟩ := jb1_s h
            refine j_callVi [.int a2, .int a1] (pc' := 57) hC dX5_open_54 rfl (t_X0_hindrance _ _ hc35) gx39 vcl0 cv_X5_206 ⟨⟨Nat.le_of_ble_eq_true rfl, Nat.le_of_ble_eq_true rfl⟩, rfl, Nat.le_of_ble_eq_true rfl⟩ rfl rfl ?_
            refine j_if_eq (tgt := 63) (pc' := 60) hC dX5_open_57 (by decide) rfl (fun c36 => ?_) (fun c36 => ?_)
            · have h := jit_t c36 h
              refine j_aload_n 0 (pc' := 64) hC dX5_open_63 rfl rfl ?_
              refine j_getr' (o2 := 39) (pc' := 67) hC dX5_open_64 rfl fi_X5_40 gx0 rfl ?_
              obtain ⟨r37, hc38, h⟩ := jb1_s h
              refine j_callVi [] (pc' := 70) hC dX5_open_67 rfl (t_X0_isFull _ _ hc38) gx39 vcl0 cv_X5_193 ⟨⟨Nat.le_of_ble_eq_true rfl, Nat.le_of_ble_eq_true rfl⟩, rfl, Nat.le_of_ble_eq_true rfl⟩ rfl rfl ?_
              refine j_if_eq (tgt := 76) (pc' := 73) hC dX5_open_70 (by decide) rfl (fun c39 => ?_) (fun c39 => ?_)
              · have h := jit_t c39 h
                refine j_aload_n 0 (pc' := 77) hC dX5_open_76 rfl rfl ?_
                refine j_getr' (o2 := 39) (pc' := 80) hC dX5_open_77 rfl fi_X5_40 gx0 rfl ?_
                refine j_iconst (v := 1) (pc' := 81) hC dX5_open_80 rfl rfl ?_
                refine j_iload_n 1 (pc' := 82) hC dX5_open_81 rfl rfl ?_
                refine j_iload_n 2 (pc' := 83) hC dX5_open_82 rfl rfl ?_
                obtain ⟨M40, hc41, h⟩ := jb1_s h
                refine j_callVv [.int (1 : Int32), .int a1, .int a2] (pc' := 86) hC dX5_open_83 rfl (t_X0_take _ _ hc41) gx39 vcl0 cv_X5_197 ⟨⟨Nat.le_of_ble_eq_true rfl, Nat.le_of_ble_eq_true rfl⟩, rfl, Nat.le_of_ble_eq_true rfl⟩ rfl rfl ?_
                refine j_aload_n 0 (pc' := 87) hC dX5_open_86 rfl rfl ?_
                refine j_getr' (o2 := 39) (pc' := 90) hC dX5_open_87 rfl fi_X5_40 gx0 rfl ?_
                refine j_geti' (pc' := 93) hC dX5_open_90 rfl fi_X5_178 gx39 ?_
                obtain ⟨q0, q1⟩ := jinj2 h
                subst q0
                subst q1
                exact j_iret hC dX5_open_93
              · have h := jit_f c39 h
                refine j_bipush (v := -2) (pc' := 75) hC dX5_open_73 rfl rfl ?_
                obtain ⟨q0, q1⟩ := jinj2 h
                subst q0
                subst q1
                exact j_iret hC dX5_open_75
            · have h := jit_f c36 h
              refine j_bipush (v := -4) (pc' := 62) hC dX5_open_60 rfl rfl ?_
              obtain ⟨q0, q1⟩ := jinj2 h
              subst q0
              subst q1
              exact j_iret hC dX5_open_62
      · have h := jit_t c24 h
        refine j_iconst (v := -1) (pc' := 29) hC dX5_open_28 rfl rfl ?_
        obtain ⟨q0, q1⟩ := jinj2 h
        subst q0
        subst q1
        exact j_iret hC dX5_open_29
theorem t_X5_send (l : Launch) (E : jE) {a1 : Int32} {M : jM} {r : Int32} {M' : jM} (h : f_X5_send a1 M = some (r, M')) : jCi l yX5_send cX5_send 2 (some .int) 3 68 E RX GX (fun a _ => [.ref (a 0), .int a1]) M r M' := by
  refine jCi_of (own := RX5) (by decide) rfl (fun _ _ => Nat.le_of_ble_eq_true rfl) ?_
  intro Γ hC
  show jJ Γ GX RX 0 [(0, .ref (jad Γ 0)), (1, .int a1)] [] M (jQi Γ RX GX r M')
  unfold f_X5_send at h
  refine j_aload_n 0 (pc' := 1) hC dX5_send_0 rfl rfl ?_
  refine j_getr' (o2 := 29) (pc' := 4) hC dX5_send_1 rfl fi_X5_31 gx0 rfl ?_
  refine j_iload_n 1 (pc' := 5) hC dX5_send_4 rfl rfl ?_
  obtain ⟨r1, hc2, h⟩ := jb1_s h
  refine j_callVi [.int a1] (pc' := 8) hC dX5_send_5 rfl (t_X2_hasHour _ _ hc2) gx29 vcl2 cv_X5_150 ⟨⟨Nat.le_of_ble_eq_true rfl, Nat.le_of_ble_eq_true rfl⟩, rfl, Nat.le_of_ble_eq_true rfl⟩ rfl rfl ?_
  refine j_if_ne (tgt := 13) (pc' := 11) hC dX5_send_8 (by decide) rfl (fun c3 => ?_) (fun c3 => ?_)
  · have h := jit_f c3 h
    refine j_aload_n 0 (pc' := 14) hC dX5_send_13 rfl rfl ?_
    refine j_getr' (o2 := 39) (pc' := 17) hC dX5_send_14 rfl fi_X5_40 gx0 rfl ?_
    refine j_iload_n 1 (pc' := 18) hC dX5_send_17 rfl rfl ?_
    obtain ⟨r4, hc5, h⟩ := jb1_s h
    refine j_callVi [.int a1] (pc' := 21) hC dX5_send_18 rfl (t_X0_whereIs _ _ hc5) gx39 vcl0 cv_X5_203 ⟨⟨Nat.le_of_ble_eq_true rfl, Nat.le_of_ble_eq_true rfl⟩, rfl, Nat.le_of_ble_eq_true rfl⟩ rfl rfl ?_
    refine j_iconst (v := 1) (pc' := 22) hC dX5_send_21 rfl rfl ?_
    refine j_icmp_eq (tgt := 28) (pc' := 25) hC dX5_send_22 (by decide) rfl (fun c6 => ?_) (fun c6 => ?_)
    · have h := jit_t c6 h
      refine j_aload_n 0 (pc' := 29) hC dX5_send_28 rfl rfl ?_
      refine j_getr' (o2 := 39) (pc' := 32) hC dX5_send_29 rfl fi_X5_40 gx0 rfl ?_
      obtain ⟨r7, hc8, h⟩ := jb1_s h
      refine j_callVi [] (pc' := 35) hC dX5_send_32 rfl (t_X0_isFull _ _ hc8) gx39 vcl0 cv_X5_193 ⟨⟨Nat.le_of_ble_eq_true rfl, Nat.le_of_ble_eq_true rfl⟩, rfl, Nat.le_of_ble_eq_true rfl⟩ rfl rfl ?_
      refine j_if_eq (tgt := 41) (pc' := 38) hC dX5_send_35 (by decide) rfl (fun c9 => ?_) (fun c9 => ?_)
      · have h := jit_t c9 h
        refine j_aload_n 0 (pc' := 42) hC dX5_send_41 rfl rfl ?_
        refine j_getr' (o2 := 39) (pc' := 45) hC dX5_send_42 rfl fi_X5_40 gx0 rfl ?_
        refine j_iconst (v := 2) (pc' := 46) hC dX5_send_45 rfl rfl ?_
        refine j_iload_n 1 (pc' := 47) hC dX5_send_46 rfl rfl ?_
        refine j_bipush (v := -9) (pc' := 49) hC dX5_send_47 rfl rfl ?_
        obtain ⟨M10, hc11, h⟩ := jb1_s h
        refine j_callVv [.int (2 : Int32), .int a1, .int (-9 : Int32)] (pc' := 52) hC dX5_send_49 rfl (t_X0_take _ _ hc11) gx39 vcl0 cv_X5_197 ⟨⟨Nat.le_of_ble_eq_true rfl, Nat.le_of_ble_eq_true rfl⟩, rfl, Nat.le_of_ble_eq_true rfl⟩ rfl rfl ?_
        refine j_aload_n 0 (pc' := 53) hC dX5_send_52 rfl rfl ?_
        refine j_getr' (o2 := 39) (pc' := 56) hC dX5_send_53 rfl fi_X5_40 gx0 rfl ?_
        obtain ⟨r12, hc13, h⟩ := jb1_s h
        refine j_callVi [] (pc' := 59) hC dX5_send_56 rfl (t_X0_shelfBits _ _ hc13) gx39 vcl0 cv_X5_209 ⟨⟨Nat.le_of_ble_eq_true rfl, Nat.le_of_ble_eq_true rfl⟩, rfl, Nat.le_of_ble_eq_true rfl⟩ rfl rfl ?_
        obtain ⟨r14, hc15, h⟩ := jb1_s h
        refine j_callSi [.int r12] (pc' := 62) hC dX5_send_59 rfl (t_J6_bitCount_0f7a4 _ _ hc15) cs_X5_173 ⟨⟨Nat.le_of_ble_eq_true rfl, Nat.le_of_ble_eq_true rfl⟩, rfl, Nat.le_of_ble_eq_true rfl⟩ rfl rfl ?_
        obtain ⟨q0, q1⟩ := jinj2 h
        subst q0
        subst q1
        exact j_iret hC dX5_send_62
      · have h := jit_f c9 h
        refine j_bipush (v := -2) (pc' := 40) hC dX5_send_38 rfl rfl ?_
        obtain ⟨q0, q1⟩ := jinj2 h
        subst q0
        subst q1
        exact j_iret hC dX5_send_40
    · have h := jit_f c6 h
      refine j_bipush (v := -4) (pc' := 27) hC dX5_send_25 rfl rfl ?_
      obtain ⟨q0, q1⟩ := jinj2 h
      subst q0
      subst q1
      exact j_iret hC dX5_send_27
  · have h := jit_t c3 h
    refine j_iconst (v := -1) (pc' := 12) hC dX5_send_11 rfl rfl ?_
    obtain ⟨q0, q1⟩ := jinj2 h
    subst q0
    subst q1
    exact j_iret hC dX5_send_12
theorem lp_X0_goBackTo_L13_b {Γ : jG} (hC : jOK Γ cX0_goBackTo 4 RX0 (some .int) { frames := 3, cells := 0, slots := 0, locals := 68 }) {Q : State → Prop} (x2 : Int32) (rec : Int32 → Int32 → jM → Option (Int32 × jM)) (ih : ∀ (x1 : Int32) (x3 : Int32) (M : jM) (e3 : Int32) (Me : jM), rec x1 x3 M = some (e3, Me) → jJ Γ GX RX 52 [(0, .ref (jad Γ 39)), (1, .int x1), (2, .int x2), (3, .int e3)] [] Me Q → jJ Γ GX RX 13 [(0, .ref (jad Γ 39)), (1, .int x1), (2, .int x2), (3, .int x3)] [] M Q) (x1 : Int32) (x3 : Int32) (M : jM) (e3 : Int32) (Me : jM) (h : f_X0_goBackTo_L13_b rec x1 x3 M = some (e3, Me)) (hK : jJ Γ GX RX 52 [(0, .ref (jad Γ 39)), (1, .int x1), (2, .int x2), (3, .int e3)] [] Me Q) : jJ Γ GX RX 13 [(0, .ref (jad Γ 39)), (1, .int x1), (2, .int x2), (3, .int x3)] [] M Q := by
  unfold f_X0_goBackTo_L13_b at h
  refine j_iload_n 3 (pc' := 14) hC dX0_goBackTo_13 rfl rfl ?_
  refine j_iload_n 1 (pc' := 15) hC dX0_goBackTo_14 rfl rfl ?_
  refine j_icmp_ge (tgt := 52) (pc' := 18) hC dX0_goBackTo_15 (by decide) rfl (fun c1 => ?_) (fun c1 => ?_)
  · have h := jit_t c1 h
    obtain ⟨q0, q1⟩ := jinj2 h
    subst q0
    subst q1
    refine j_sub [0, 1, 2, 3] rfl ?_
    exact hK
  · have h := jit_f c1 h
    refine j_iload_n 3 (pc' := 19) hC dX0_goBackTo_18 rfl rfl ?_
    refine j_bipush (v := 40) (pc' := 21) hC dX0_goBackTo_19 rfl rfl ?_
    refine j_icmp_ge (tgt := 52) (pc' := 24) hC dX0_goBackTo_21 (by decide) rfl (fun c2 => ?_) (fun c2 => ?_)
    · have h := jit_t c2 h
      obtain ⟨q0, q1⟩ := jinj2 h
      subst q0
      subst q1
      refine j_sub [0, 1, 2, 3] rfl ?_
      exact hK
    · have h := jit_f c2 h
      refine j_aload_n 0 (pc' := 25) hC dX0_goBackTo_24 rfl rfl ?_
      refine j_aload_n 0 (pc' := 26) hC dX0_goBackTo_25 rfl rfl ?_
      refine j_getr' (o2 := 41) (pc' := 29) hC dX0_goBackTo_26 rfl fi_X0_15 gx39 rfl ?_
      refine j_iload_n 3 (pc' := 30) hC dX0_goBackTo_29 rfl rfl ?_
      obtain ⟨g3, h⟩ := jg_s h
      refine j_iald (pc' := 31) hC dX0_goBackTo_30 rfl gx41 g3 ?_
      refine j_aload_n 0 (pc' := 32) hC dX0_goBackTo_31 rfl rfl ?_
      refine j_getr' (o2 := 42) (pc' := 35) hC dX0_goBackTo_32 rfl fi_X0_18 gx39 rfl ?_
      refine j_iload_n 3 (pc' := 36) hC dX0_goBackTo_35 rfl rfl ?_
      obtain ⟨g4, h⟩ := jg_s h
      refine j_iald (pc' := 37) hC dX0_goBackTo_36 rfl gx42 g4 ?_
      refine j_aload_n 0 (pc' := 38) hC dX0_goBackTo_37 rfl rfl ?_
      refine j_getr' (o2 := 43) (pc' := 41) hC dX0_goBackTo_38 rfl fi_X0_21 gx39 rfl ?_
      refine j_iload_n 3 (pc' := 42) hC dX0_goBackTo_41 rfl rfl ?_
      obtain ⟨g5, h⟩ := jg_s h
      refine j_iald (pc' := 43) hC dX0_goBackTo_42 rfl gx43 g5 ?_
      obtain ⟨M6, hc7, h⟩ := jb1_s h
      refine j_callVv [.int (gi M 41 x3.toNatClampNeg), .int (gi M 42 x3.toNatClampNeg), .int (gi M 43 x3.toNatClampNeg)] (pc' := 46) hC dX0_goBackTo_43 rfl (t_X0_take _ _ hc7) gx39 vcl0 cv_X0_89 ⟨⟨Nat.le_of_ble_eq_true rfl, Nat.le_of_ble_eq_true rfl⟩, rfl, Nat.le_of_ble_eq_true rfl⟩ rfl rfl ?_
      obtain ⟨v8, ev8, h⟩ := jlet_s h
      refine j_iinc' 3 (c := 1) (pc' := 49) hC dX0_goBackTo_46 rfl rfl rfl ev8 (by decide) rfl ?_
      refine j_goto (tgt := 13) (pc' := 0) hC dX0_goBackTo_49 (by decide) ?_
      refine j_sub [1, 2, 3, 0] rfl ?_
      exact ih _ _ _ _ _ h hK
theorem lp_X0_goBackTo_L13 {Γ : jG} (hC : jOK Γ cX0_goBackTo 4 RX0 (some .int) { frames := 3, cells := 0, slots := 0, locals := 68 }) {Q : State → Prop} (x2 : Int32) : ∀ (n : Nat) (x1 : Int32) (x3 : Int32) (M : jM) (e3 : Int32) (Me : jM), f_X0_goBackTo_L13 n x1 x3 M = some (e3, Me) → jJ Γ GX RX 52 [(0, .ref (jad Γ 39)), (1, .int x1), (2, .int x2), (3, .int e3)] [] Me Q → jJ Γ GX RX 13 [(0, .ref (jad Γ 39)), (1, .int x1), (2, .int x2), (3, .int x3)] [] M Q := by
  intro n
  induction n with
  | zero =>
    intro x1 x3 M e3 Me h hK
    exact jno h
  | succ n ih =>
    intro x1 x3 M e3 Me h hK
    exact lp_X0_goBackTo_L13_b hC x2 (f_X0_goBackTo_L13 n) ih x1 x3 M e3 Me h hK
theorem t_X0_goBackTo (l : Launch) (E : jE) {a1 : Int32} {M : jM} {r : Int32} {M' : jM} (h : f_X0_goBackTo a1 M = some (r, M')) : jCi l yX0_goBackTo cX0_goBackTo 4 (some .int) 3 68 E RX GX (fun a _ => [.ref (a 39), .int a1]) M r M' := by
  refine jCi_of (own := RX0) (by decide) rfl (fun _ _ => Nat.le_of_ble_eq_true rfl) ?_
  intro Γ hC
  show jJ Γ GX RX 0 [(0, .ref (jad Γ 39)), (1, .int a1)] [] M (jQi Γ RX GX r M')
  unfold f_X0_goBackTo at h
  refine j_aload_n 0 (pc' := 1) hC dX0_goBackTo_0 rfl rfl ?_
  refine j_geti' (pc' := 4) hC dX0_goBackTo_1 rfl fi_X0_27 gx39 ?_
  refine j_iload_n 1 (pc' := 5) hC dX0_goBackTo_4 rfl rfl ?_
  refine j_isub (pc' := 6) hC dX0_goBackTo_5 rfl ?_
  obtain ⟨v1, ev1, h⟩ := jlet_s h
  refine j_istore_n (pc' := 7) hC dX0_goBackTo_6 rfl ev1 (by decide) rfl ?_
  refine j_aload_n 1 (pc' := 8) hC dX0_goBackTo_7 rfl rfl ?_
  obtain ⟨M2, hc3, h⟩ := jb1_s h
  refine j_callVv [] (pc' := 11) hC dX0_goBackTo_8 rfl (t_X0_rewind _ _ hc3) gx39 vcl0 cv_X0_65 ⟨⟨Nat.le_of_ble_eq_true rfl, Nat.le_of_ble_eq_true rfl⟩, rfl, Nat.le_of_ble_eq_true rfl⟩ rfl rfl ?_
  refine j_iconst (v := 0) (pc' := 12) hC dX0_goBackTo_11 rfl rfl ?_
  refine j_istore_n (pc' := 13) hC dX0_goBackTo_12 rfl rfl (by decide) rfl ?_
  refine j_sub [2, 3, 1, 0] rfl ?_
  obtain ⟨v4, M5, hm6, h⟩ := jb2_s h
  refine lp_X0_goBackTo_L13 hC v1 jfu a1 (0 : Int32) M2 v4 M5 hm6 ?_
  refine j_iload_n 2 (pc' := 53) hC dX0_goBackTo_52 rfl rfl ?_
  obtain ⟨q0, q1⟩ := jinj2 h
  subst q0
  subst q1
  exact j_iret hC dX0_goBackTo_53
theorem t_X5_undo (l : Launch) (E : jE) {a1 : Int32} {M : jM} {r : Int32} {M' : jM} (h : f_X5_undo a1 M = some (r, M')) : jCi l yX5_undo cX5_undo 2 (some .int) 4 91 E RX GX (fun a _ => [.ref (a 0), .int a1]) M r M' := by
  refine jCi_of (own := RX5) (by decide) rfl (fun _ _ => Nat.le_of_ble_eq_true rfl) ?_
  intro Γ hC
  show jJ Γ GX RX 0 [(0, .ref (jad Γ 0)), (1, .int a1)] [] M (jQi Γ RX GX r M')
  unfold f_X5_undo at h
  refine j_iload_n 1 (pc' := 1) hC dX5_undo_0 rfl rfl ?_
  refine j_if_lt (tgt := 15) (pc' := 4) hC dX5_undo_1 (by decide) rfl (fun c1 => ?_) (fun c1 => ?_)
  · have h := jit_t c1 h
    refine j_iconst (v := -1) (pc' := 16) hC dX5_undo_15 rfl rfl ?_
    obtain ⟨q0, q1⟩ := jinj2 h
    subst q0
    subst q1
    exact j_iret hC dX5_undo_16
  · have h := jit_f c1 h
    refine j_iload_n 1 (pc' := 5) hC dX5_undo_4 rfl rfl ?_
    refine j_aload_n 0 (pc' := 6) hC dX5_undo_5 rfl rfl ?_
    refine j_getr' (o2 := 39) (pc' := 9) hC dX5_undo_6 rfl fi_X5_40 gx0 rfl ?_
    refine j_geti' (pc' := 12) hC dX5_undo_9 rfl fi_X5_187 gx39 ?_
    refine j_icmp_le (tgt := 17) (pc' := 15) hC dX5_undo_12 (by decide) rfl (fun c2 => ?_) (fun c2 => ?_)
    · have h := jit_t c2 h
      refine j_aload_n 0 (pc' := 18) hC dX5_undo_17 rfl rfl ?_
      refine j_getr' (o2 := 39) (pc' := 21) hC dX5_undo_18 rfl fi_X5_40 gx0 rfl ?_
      refine j_iload_n 1 (pc' := 22) hC dX5_undo_21 rfl rfl ?_
      obtain ⟨r3, M4, hc5, h⟩ := jb2_s h
      refine j_callVi [.int a1] (pc' := 25) hC dX5_undo_22 rfl (t_X0_goBackTo _ _ hc5) gx39 vcl0 cv_X5_213 ⟨⟨Nat.le_of_ble_eq_true rfl, Nat.le_of_ble_eq_true rfl⟩, rfl, Nat.le_of_ble_eq_true rfl⟩ rfl rfl ?_
      obtain ⟨q0, q1⟩ := jinj2 h
      subst q0
      subst q1
      exact j_iret hC dX5_undo_25
    · have h := jit_f c2 h
      refine j_iconst (v := -1) (pc' := 16) hC dX5_undo_15 rfl rfl ?_
      obtain ⟨q0, q1⟩ := jinj2 h
      subst q0
      subst q1
      exact j_iret hC dX5_undo_16
