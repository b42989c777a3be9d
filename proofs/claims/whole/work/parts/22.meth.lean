theorem t_X2_addHourd (l : Launch) (E : jE) {a1 : Int32} {a2 : Int32} {a3 : Int32} {M : jM} {M' : jM} (h : f_X2_addHourd a1 a2 a3 M = some M') : jCv l yX2_addHour cX2_addHour 4 (none) 0 0 E RX GX (fun a _ => [.ref (a 18), .int a1, .int a2, .int a3]) M M' := by
  refine jCv_of (own := RX2) (by decide) rfl (fun _ _ => Nat.le_of_ble_eq_true rfl) ?_
  intro Γ hC
  show jJ Γ GX RX 0 [(0, .ref (jad Γ 18)), (1, .int a1), (2, .int a2), (3, .int a3)] [] M (jQv Γ RX GX M')
  unfold f_X2_addHourd at h
  refine j_aload_n 0 (pc' := 1) hC dX2_addHour_0 rfl rfl ?_
  refine j_geti' (pc' := 4) hC dX2_addHour_1 rfl fi_X2_15 gx18 ?_
  refine j_bipush (v := 7) (pc' := 6) hC dX2_addHour_4 rfl rfl ?_
  refine j_icmp_lt (tgt := 10) (pc' := 9) hC dX2_addHour_6 (by decide) rfl (fun c1 => ?_) (fun c1 => ?_)
  · have h := jit_t c1 h
    refine j_aload_n 0 (pc' := 11) hC dX2_addHour_10 rfl rfl ?_
    refine j_getr' (o2 := 23) (pc' := 14) hC dX2_addHour_11 rfl fi_X2_31 gx18 rfl ?_
    refine j_aload_n 0 (pc' := 15) hC dX2_addHour_14 rfl rfl ?_
    refine j_geti' (pc' := 18) hC dX2_addHour_15 rfl fi_X2_15 gx18 ?_
    refine j_iload_n 1 (pc' := 19) hC dX2_addHour_18 rfl rfl ?_
    obtain ⟨g2, h⟩ := jg_s h
    obtain ⟨M3, eM3, h⟩ := jlet_s h
    refine j_iast' (pc' := 20) hC dX2_addHour_19 rfl gx23 g2 eM3 ?_
    refine j_aload_n 0 (pc' := 21) hC dX2_addHour_20 rfl rfl ?_
    refine j_getr' (o2 := 24) (pc' := 24) hC dX2_addHour_21 rfl fi_X2_34 gx18 rfl ?_
    refine j_aload_n 0 (pc' := 25) hC dX2_addHour_24 rfl rfl ?_
    refine j_geti' (pc' := 28) hC dX2_addHour_25 rfl fi_X2_15 gx18 ?_
    refine j_iload_n 2 (pc' := 29) hC dX2_addHour_28 rfl rfl ?_
    obtain ⟨g4, h⟩ := jg_s h
    obtain ⟨M5, eM5, h⟩ := jlet_s h
    refine j_iast' (pc' := 30) hC dX2_addHour_29 rfl gx24 g4 eM5 ?_
    refine j_aload_n 0 (pc' := 31) hC dX2_addHour_30 rfl rfl ?_
    refine j_getr' (o2 := 25) (pc' := 34) hC dX2_addHour_31 rfl fi_X2_37 gx18 rfl ?_
    refine j_aload_n 0 (pc' := 35) hC dX2_addHour_34 rfl rfl ?_
    refine j_geti' (pc' := 38) hC dX2_addHour_35 rfl fi_X2_15 gx18 ?_
    refine j_iload_n 3 (pc' := 39) hC dX2_addHour_38 rfl rfl ?_
    obtain ⟨g6, h⟩ := jg_s h
    obtain ⟨M7, eM7, h⟩ := jlet_s h
    refine j_iast' (pc' := 40) hC dX2_addHour_39 rfl gx25 g6 eM7 ?_
    refine j_aload_n 0 (pc' := 41) hC dX2_addHour_40 rfl rfl ?_
    refine j_dup (pc' := 42) hC dX2_addHour_41 rfl rfl ?_
    refine j_geti' (pc' := 45) hC dX2_addHour_42 rfl fi_X2_15 gx18 ?_
    refine j_iconst (v := 1) (pc' := 46) hC dX2_addHour_45 rfl rfl ?_
    refine j_iadd (pc' := 47) hC dX2_addHour_46 rfl ?_
    obtain ⟨M8, eM8, h⟩ := jlet_s h
    refine j_puti' (pc' := 50) hC dX2_addHour_47 rfl fp_X2_15 gx18 eM8 ?_
    have q8 := jinj1 h
    subst q8
    exact j_vret hC dX2_addHour_50
  · have h := jit_f c1 h
    have q8 := jinj1 h
    subst q8
    exact j_vret hC dX2_addHour_9
theorem t_X3_readHour (l : Launch) (E : jE) {M : jM} {r : Int32} {M' : jM} (h : f_X3_readHour M = some (r, M')) : jCi l yX3_readHour cX3_readHour 4 (some .boolean) 1 23 E RX GX (fun a _ => [.ref (a 17)]) M r M' := by
  refine jCi_of (own := RX3) (by decide) rfl (fun _ _ => Nat.le_of_ble_eq_true rfl) ?_
  intro Γ hC
  show jJ Γ GX RX 0 [(0, .ref (jad Γ 17))] [] M (jQi Γ RX GX r M')
  unfold f_X3_readHour at h
  refine j_aload_n 0 (pc' := 1) hC dX3_readHour_0 rfl rfl ?_
  refine j_iconst (v := 0) (pc' := 2) hC dX3_readHour_1 rfl rfl ?_
  obtain ⟨r1, M2, hc3, h⟩ := jb2_s h
  refine j_callVi [.int (0 : Int32)] (pc' := 5) hC dX3_readHour_2 rfl (t_X3_take _ _ hc3) gx17 vcl3 cv_X3_67 ⟨⟨Nat.le_of_ble_eq_true rfl, Nat.le_of_ble_eq_true rfl⟩, rfl, Nat.le_of_ble_eq_true rfl⟩ rfl rfl ?_
  refine j_pop (pc' := 6) hC dX3_readHour_5 rfl rfl ?_
  refine j_aload_n 0 (pc' := 7) hC dX3_readHour_6 rfl rfl ?_
  refine j_aload_n 0 (pc' := 8) hC dX3_readHour_7 rfl rfl ?_
  refine j_bipush (v := 65) (pc' := 10) hC dX3_readHour_8 rfl rfl ?_
  refine j_bipush (v := 88) (pc' := 12) hC dX3_readHour_10 rfl rfl ?_
  obtain ⟨r4, hc5, h⟩ := jb1_s h
  refine j_callVi [.int (65 : Int32), .int (88 : Int32)] (pc' := 15) hC dX3_readHour_12 rfl (t_X3_nextBetween _ _ hc5) gx17 vcl3 cv_X3_48 ⟨⟨Nat.le_of_ble_eq_true rfl, Nat.le_of_ble_eq_true rfl⟩, rfl, Nat.le_of_ble_eq_true rfl⟩ rfl rfl ?_
  obtain ⟨r6, M7, hc8, h⟩ := jb2_s h
  refine j_callVi [.int r4] (pc' := 18) hC dX3_readHour_15 rfl (t_X3_take _ _ hc8) gx17 vcl3 cv_X3_67 ⟨⟨Nat.le_of_ble_eq_true rfl, Nat.le_of_ble_eq_true rfl⟩, rfl, Nat.le_of_ble_eq_true rfl⟩ rfl rfl ?_
  refine j_istore_n (pc' := 19) hC dX3_readHour_18 rfl rfl (by decide) rfl ?_
  refine j_iload_n 0 (pc' := 20) hC dX3_readHour_19 rfl rfl ?_
  obtain ⟨v15, M16, hm18, h⟩ := jb2_s h
  have K17 : jJ Γ GX RX 40 [(0, .ref (jad Γ 17)), (1, .int r6)] [.int v15] M16 (jQi Γ RX GX r M') := by
    refine j_istore_n (pc' := 41) hC dX3_readHour_40 rfl rfl (by decide) rfl ?_
    refine j_iload_n 0 (pc' := 42) hC dX3_readHour_41 rfl rfl ?_
    obtain ⟨v31, M32, hm34, h⟩ := jb2_s h
    have K33 : jJ Γ GX RX 62 [(0, .ref (jad Γ 17)), (1, .int r6), (2, .int v15)] [.int v31] M32 (jQi Γ RX GX r M') := by
      refine j_istore_n (pc' := 63) hC dX3_readHour_62 rfl rfl (by decide) rfl ?_
      refine j_iload_n 0 (pc' := 64) hC dX3_readHour_63 rfl rfl ?_
      refine j_if_ge (tgt := 69) (pc' := 67) hC dX3_readHour_64 (by decide) rfl (fun c41 => ?_) (fun c41 => ?_)
      · have h := jit_t c41 h
        refine j_aload_n 1 (pc' := 70) hC dX3_readHour_69 rfl rfl ?_
        refine j_getr' (o2 := 18) (pc' := 73) hC dX3_readHour_70 rfl fi_X3_12 gx17 rfl ?_
        refine j_iload_n 2 (pc' := 74) hC dX3_readHour_73 rfl rfl ?_
        refine j_iload_n 3 (pc' := 75) hC dX3_readHour_74 rfl rfl ?_
        refine j_iload_n 0 (pc' := 76) hC dX3_readHour_75 rfl rfl ?_
        obtain ⟨M42, hc43, h⟩ := jb1_s h
        refine j_callVv [.int r6, .int v15, .int v31] (pc' := 79) hC dX3_readHour_76 rfl (t_X2_addHourd _ _ hc43) gx18 vcl2 cv_X3_86 ⟨⟨Nat.le_of_ble_eq_true rfl, Nat.le_of_ble_eq_true rfl⟩, rfl, Nat.le_of_ble_eq_true rfl⟩ rfl rfl ?_
        refine j_iconst (v := 1) (pc' := 80) hC dX3_readHour_79 rfl rfl ?_
        obtain ⟨q0, q1⟩ := jinj2 h
        subst q0
        subst q1
        exact j_zret hC dX3_readHour_80 (by decide)
      · have h := jit_f c41 h
        refine j_iconst (v := 0) (pc' := 68) hC dX3_readHour_67 rfl rfl ?_
        obtain ⟨q0, q1⟩ := jinj2 h
        subst q0
        subst q1
        exact j_zret hC dX3_readHour_68 (by decide)
    refine j_if_ge (tgt := 50) (pc' := 45) hC dX3_readHour_42 (by decide) rfl (fun c35 => ?_) (fun c35 => ?_)
    · have hm34 := jit_t c35 hm34
      refine j_aload_n 1 (pc' := 51) hC dX3_readHour_50 rfl rfl ?_
      refine j_aload_n 1 (pc' := 52) hC dX3_readHour_51 rfl rfl ?_
      refine j_bipush (v := 48) (pc' := 54) hC dX3_readHour_52 rfl rfl ?_
      refine j_bipush (v := 50) (pc' := 56) hC dX3_readHour_54 rfl rfl ?_
      obtain ⟨r36, hc37, hm34⟩ := jb1_s hm34
      refine j_callVi [.int (48 : Int32), .int (50 : Int32)] (pc' := 59) hC dX3_readHour_56 rfl (t_X3_nextBetween _ _ hc37) gx17 vcl3 cv_X3_48 ⟨⟨Nat.le_of_ble_eq_true rfl, Nat.le_of_ble_eq_true rfl⟩, rfl, Nat.le_of_ble_eq_true rfl⟩ rfl rfl ?_
      obtain ⟨r38, M39, hc40, hm34⟩ := jb2_s hm34
      refine j_callVi [.int r36] (pc' := 62) hC dX3_readHour_59 rfl (t_X3_take _ _ hc40) gx17 vcl3 cv_X3_67 ⟨⟨Nat.le_of_ble_eq_true rfl, Nat.le_of_ble_eq_true rfl⟩, rfl, Nat.le_of_ble_eq_true rfl⟩ rfl rfl ?_
      obtain ⟨q0, q1⟩ := jinj2 hm34
      subst q0
      subst q1
      exact j_sub [1, 2, 0] rfl K33
    · have hm34 := jit_f c35 hm34
      refine j_bipush (v := -9) (pc' := 47) hC dX3_readHour_45 rfl rfl ?_
      refine j_goto (tgt := 62) (pc' := 0) hC dX3_readHour_47 (by decide) ?_
      obtain ⟨q0, q1⟩ := jinj2 hm34
      subst q0
      subst q1
      exact j_sub [1, 2, 0] rfl K33
  refine j_if_ge (tgt := 28) (pc' := 23) hC dX3_readHour_20 (by decide) rfl (fun c19 => ?_) (fun c19 => ?_)
  · have hm18 := jit_t c19 hm18
    refine j_aload_n 1 (pc' := 29) hC dX3_readHour_28 rfl rfl ?_
    refine j_aload_n 1 (pc' := 30) hC dX3_readHour_29 rfl rfl ?_
    refine j_bipush (v := 48) (pc' := 32) hC dX3_readHour_30 rfl rfl ?_
    refine j_bipush (v := 57) (pc' := 34) hC dX3_readHour_32 rfl rfl ?_
    obtain ⟨r20, hc21, hm18⟩ := jb1_s hm18
    refine j_callVi [.int (48 : Int32), .int (57 : Int32)] (pc' := 37) hC dX3_readHour_34 rfl (t_X3_nextBetween _ _ hc21) gx17 vcl3 cv_X3_48 ⟨⟨Nat.le_of_ble_eq_true rfl, Nat.le_of_ble_eq_true rfl⟩, rfl, Nat.le_of_ble_eq_true rfl⟩ rfl rfl ?_
    obtain ⟨r22, M23, hc24, hm18⟩ := jb2_s hm18
    refine j_callVi [.int r20] (pc' := 40) hC dX3_readHour_37 rfl (t_X3_take _ _ hc24) gx17 vcl3 cv_X3_67 ⟨⟨Nat.le_of_ble_eq_true rfl, Nat.le_of_ble_eq_true rfl⟩, rfl, Nat.le_of_ble_eq_true rfl⟩ rfl rfl ?_
    obtain ⟨q0, q1⟩ := jinj2 hm18
    subst q0
    subst q1
    exact j_sub [1, 0] rfl K17
  · have hm18 := jit_f c19 hm18
    refine j_bipush (v := -9) (pc' := 25) hC dX3_readHour_23 rfl rfl ?_
    refine j_goto (tgt := 40) (pc' := 0) hC dX3_readHour_25 (by decide) ?_
    obtain ⟨q0, q1⟩ := jinj2 hm18
    subst q0
    subst q1
    exact j_sub [1, 0] rfl K17
theorem t_X3_readItem (l : Launch) (E : jE) {M : jM} {r : Int32} {M' : jM} (h : f_X3_readItem M = some (r, M')) : jCi l yX3_readItem cX3_readItem 1 (some .boolean) 3 72 E RX GX (fun a _ => [.ref (a 17)]) M r M' := by
  refine jCi_of (own := RX3) (by decide) rfl (fun _ _ => Nat.le_of_ble_eq_true rfl) ?_
  intro Γ hC
  show jJ Γ GX RX 0 [(0, .ref (jad Γ 17))] [] M (jQi Γ RX GX r M')
  unfold f_X3_readItem at h
  refine j_aload_n 0 (pc' := 1) hC dX3_readItem_0 rfl rfl ?_
  refine j_bipush (v := 104) (pc' := 3) hC dX3_readItem_1 rfl rfl ?_
  refine j_bipush (v := 104) (pc' := 5) hC dX3_readItem_3 rfl rfl ?_
  obtain ⟨r1, hc2, h⟩ := jb1_s h
  refine j_callVi [.int (104 : Int32), .int (104 : Int32)] (pc' := 8) hC dX3_readItem_5 rfl (t_X3_nextBetween _ _ hc2) gx17 vcl3 cv_X3_48 ⟨⟨Nat.le_of_ble_eq_true rfl, Nat.le_of_ble_eq_true rfl⟩, rfl, Nat.le_of_ble_eq_true rfl⟩ rfl rfl ?_
  refine j_if_ne (tgt := 46) (pc' := 11) hC dX3_readItem_8 (by decide) rfl (fun c3 => ?_) (fun c3 => ?_)
  · have h := jit_f c3 h
    refine j_aload_n 0 (pc' := 47) hC dX3_readItem_46 rfl rfl ?_
    refine j_getr' (o2 := 18) (pc' := 50) hC dX3_readItem_47 rfl fi_X3_12 gx17 rfl ?_
    refine j_geti' (pc' := 53) hC dX3_readItem_50 rfl fi_X3_51 gx18 ?_
    refine j_if_ne (tgt := 79) (pc' := 56) hC dX3_readItem_53 (by decide) rfl (fun c4 => ?_) (fun c4 => ?_)
    · have h := jit_f c4 h
      refine j_iconst (v := 0) (pc' := 80) hC dX3_readItem_79 rfl rfl ?_
      obtain ⟨q0, q1⟩ := jinj2 h
      subst q0
      subst q1
      exact j_zret hC dX3_readItem_80 (by decide)
    · have h := jit_t c4 h
      refine j_aload_n 0 (pc' := 57) hC dX3_readItem_56 rfl rfl ?_
      refine j_getr' (o2 := 18) (pc' := 60) hC dX3_readItem_57 rfl fi_X3_12 gx17 rfl ?_
      refine j_geti' (pc' := 63) hC dX3_readItem_60 rfl fi_X3_45 gx18 ?_
      refine j_bipush (v := 6) (pc' := 65) hC dX3_readItem_63 rfl rfl ?_
      refine j_icmp_ge (tgt := 79) (pc' := 68) hC dX3_readItem_65 (by decide) rfl (fun c5 => ?_) (fun c5 => ?_)
      · have h := jit_t c5 h
        refine j_iconst (v := 0) (pc' := 80) hC dX3_readItem_79 rfl rfl ?_
        obtain ⟨q0, q1⟩ := jinj2 h
        subst q0
        subst q1
        exact j_zret hC dX3_readItem_80 (by decide)
      · have h := jit_f c5 h
        refine j_aload_n 0 (pc' := 69) hC dX3_readItem_68 rfl rfl ?_
        obtain ⟨r6, M7, hc8, h⟩ := jb2_s h
        refine j_callVi [] (pc' := 72) hC dX3_readItem_69 rfl (t_X3_readDeed _ _ hc8) gx17 vcl3 cv_X3_57 ⟨⟨Nat.le_of_ble_eq_true rfl, Nat.le_of_ble_eq_true rfl⟩, rfl, Nat.le_of_ble_eq_true rfl⟩ rfl rfl ?_
        refine j_if_eq (tgt := 79) (pc' := 75) hC dX3_readItem_72 (by decide) rfl (fun c9 => ?_) (fun c9 => ?_)
        · have h := jit_t c9 h
          refine j_iconst (v := 0) (pc' := 80) hC dX3_readItem_79 rfl rfl ?_
          obtain ⟨q0, q1⟩ := jinj2 h
          subst q0
          subst q1
          exact j_zret hC dX3_readItem_80 (by decide)
        · have h := jit_f c9 h
          refine j_iconst (v := 1) (pc' := 76) hC dX3_readItem_75 rfl rfl ?_
          refine j_goto (tgt := 80) (pc' := 0) hC dX3_readItem_76 (by decide) ?_
          obtain ⟨q0, q1⟩ := jinj2 h
          subst q0
          subst q1
          exact j_zret hC dX3_readItem_80 (by decide)
  · have h := jit_t c3 h
    refine j_aload_n 0 (pc' := 12) hC dX3_readItem_11 rfl rfl ?_
    refine j_getr' (o2 := 18) (pc' := 15) hC dX3_readItem_12 rfl fi_X3_12 gx17 rfl ?_
    refine j_geti' (pc' := 18) hC dX3_readItem_15 rfl fi_X3_45 gx18 ?_
    refine j_if_le (tgt := 44) (pc' := 21) hC dX3_readItem_18 (by decide) rfl (fun c10 => ?_) (fun c10 => ?_)
    · have h := jit_t c10 h
      refine j_iconst (v := 0) (pc' := 45) hC dX3_readItem_44 rfl rfl ?_
      obtain ⟨q0, q1⟩ := jinj2 h
      subst q0
      subst q1
      exact j_zret hC dX3_readItem_45 (by decide)
    · have h := jit_f c10 h
      refine j_aload_n 0 (pc' := 22) hC dX3_readItem_21 rfl rfl ?_
      refine j_getr' (o2 := 18) (pc' := 25) hC dX3_readItem_22 rfl fi_X3_12 gx17 rfl ?_
      refine j_geti' (pc' := 28) hC dX3_readItem_25 rfl fi_X3_51 gx18 ?_
      refine j_bipush (v := 7) (pc' := 30) hC dX3_readItem_28 rfl rfl ?_
      refine j_icmp_ge (tgt := 44) (pc' := 33) hC dX3_readItem_30 (by decide) rfl (fun c11 => ?_) (fun c11 => ?_)
      · have h := jit_t c11 h
        refine j_iconst (v := 0) (pc' := 45) hC dX3_readItem_44 rfl rfl ?_
        obtain ⟨q0, q1⟩ := jinj2 h
        subst q0
        subst q1
        exact j_zret hC dX3_readItem_45 (by decide)
      · have h := jit_f c11 h
        refine j_aload_n 0 (pc' := 34) hC dX3_readItem_33 rfl rfl ?_
        obtain ⟨r12, M13, hc14, h⟩ := jb2_s h
        refine j_callVi [] (pc' := 37) hC dX3_readItem_34 rfl (t_X3_readHour _ _ hc14) gx17 vcl3 cv_X3_54 ⟨⟨Nat.le_of_ble_eq_true rfl, Nat.le_of_ble_eq_true rfl⟩, rfl, Nat.le_of_ble_eq_true rfl⟩ rfl rfl ?_
        refine j_if_eq (tgt := 44) (pc' := 40) hC dX3_readItem_37 (by decide) rfl (fun c15 => ?_) (fun c15 => ?_)
        · have h := jit_t c15 h
          refine j_iconst (v := 0) (pc' := 45) hC dX3_readItem_44 rfl rfl ?_
          obtain ⟨q0, q1⟩ := jinj2 h
          subst q0
          subst q1
          exact j_zret hC dX3_readItem_45 (by decide)
        · have h := jit_f c15 h
          refine j_iconst (v := 1) (pc' := 41) hC dX3_readItem_40 rfl rfl ?_
          refine j_goto (tgt := 45) (pc' := 0) hC dX3_readItem_41 (by decide) ?_
          obtain ⟨q0, q1⟩ := jinj2 h
          subst q0
          subst q1
          exact j_zret hC dX3_readItem_45 (by decide)
theorem lp_X3_firstFault_L33_b {Γ : jG} (hC : jOK Γ cX3_firstFault 4 RX3 (some .int) { frames := 4, cells := 0, slots := 0, locals := 92 }) {Q : State → Prop} (o1 : Nat) (n1 : Nat) (ho1 : GX[o1]? = some (0, n1)) (x2 : Int32) (rec : Int32 → jM → Option ((Int32 × jM) ⊕ (Int32 × jM))) (ih : ∀ (x3 : Int32) (M : jM) (res : (Int32 × jM) ⊕ (Int32 × jM)), rec x3 M = some res → (∀ (r : Int32) (M' : jM), res = .inl (r, M') → Q = jQi Γ RX GX r M') → (∀ (e3 : Int32) (Me : jM), res = .inr (e3, Me) → jJ Γ GX RX 72 [(0, .ref (jad Γ 17)), (1, .ref (jad Γ o1)), (2, .int x2), (3, .int e3)] [] Me Q) → jJ Γ GX RX 33 [(0, .ref (jad Γ 17)), (1, .ref (jad Γ o1)), (2, .int x2), (3, .int x3)] [] M Q) (x3 : Int32) (M : jM) (res : (Int32 × jM) ⊕ (Int32 × jM)) (h : f_X3_firstFault_L33_b o1 n1 rec x3 M = some res) (hQ : ∀ (r : Int32) (M' : jM), res = .inl (r, M') → Q = jQi Γ RX GX r M') (hK : ∀ (e3 : Int32) (Me : jM), res = .inr (e3, Me) → jJ Γ GX RX 72 [(0, .ref (jad Γ 17)), (1, .ref (jad Γ o1)), (2, .int x2), (3, .int e3)] [] Me Q) : jJ Γ GX RX 33 [(0, .ref (jad Γ 17)), (1, .ref (jad Γ o1)), (2, .int x2), (3, .int x3)] [] M Q := by
  unfold f_X3_firstFault_L33_b at h
  refine j_iload_n 3 (pc' := 34) hC dX3_firstFault_33 rfl rfl ?_
  refine j_bipush (v := 80) (pc' := 36) hC dX3_firstFault_34 rfl rfl ?_
  refine j_icmp_ge (tgt := 72) (pc' := 39) hC dX3_firstFault_36 (by decide) rfl (fun c1 => ?_) (fun c1 => ?_)
  · have h := jit_t c1 h
    have q8 := jinj1 h
    subst q8
    refine j_sub [0, 1, 2, 3] rfl ?_
    exact hK _ _ rfl
  · have h := jit_f c1 h
    refine j_aload_n 0 (pc' := 40) hC dX3_firstFault_39 rfl rfl ?_
    refine j_geti' (pc' := 43) hC dX3_firstFault_40 rfl fi_X3_26 gx17 ?_
    refine j_aload_n 0 (pc' := 44) hC dX3_firstFault_43 rfl rfl ?_
    refine j_geti' (pc' := 47) hC dX3_firstFault_44 rfl fi_X3_22 gx17 ?_
    refine j_icmp_ge (tgt := 72) (pc' := 50) hC dX3_firstFault_47 (by decide) rfl (fun c2 => ?_) (fun c2 => ?_)
    · have h := jit_t c2 h
      have q8 := jinj1 h
      subst q8
      refine j_sub [0, 1, 2, 3] rfl ?_
      exact hK _ _ rfl
    · have h := jit_f c2 h
      refine j_aload_n 0 (pc' := 51) hC dX3_firstFault_50 rfl rfl ?_
      obtain ⟨r3, M4, hc5, h⟩ := jb2_s h
      refine j_callVi [] (pc' := 54) hC dX3_firstFault_51 rfl (t_X3_readItem _ _ hc5) gx17 vcl3 cv_X3_41 ⟨⟨Nat.le_of_ble_eq_true rfl, Nat.le_of_ble_eq_true rfl⟩, rfl, Nat.le_of_ble_eq_true rfl⟩ rfl rfl ?_
      refine j_if_ne (tgt := 62) (pc' := 57) hC dX3_firstFault_54 (by decide) rfl (fun c6 => ?_) (fun c6 => ?_)
      · have h := jit_f c6 h
        refine j_aload_n 0 (pc' := 63) hC dX3_firstFault_62 rfl rfl ?_
        obtain ⟨M7, hc8, h⟩ := jb1_s h
        refine j_callVv [] (pc' := 66) hC dX3_firstFault_63 rfl (t_X3_skipBlanks _ _ hc8) gx17 vcl3 cv_X3_38 ⟨⟨Nat.le_of_ble_eq_true rfl, Nat.le_of_ble_eq_true rfl⟩, rfl, Nat.le_of_ble_eq_true rfl⟩ rfl rfl ?_
        obtain ⟨v9, ev9, h⟩ := jlet_s h
        refine j_iinc' 3 (c := 1) (pc' := 69) hC dX3_firstFault_66 rfl rfl rfl ev9 (by decide) rfl ?_
        refine j_goto (tgt := 33) (pc' := 0) hC dX3_firstFault_69 (by decide) ?_
        refine j_sub [1, 2, 3, 0] rfl ?_
        exact ih _ _ res h hQ hK
      · have h := jit_t c6 h
        refine j_aload_n 0 (pc' := 58) hC dX3_firstFault_57 rfl rfl ?_
        refine j_geti' (pc' := 61) hC dX3_firstFault_58 rfl fi_X3_26 gx17 ?_
        have q8 := jinj1 h
        subst q8
        rw [hQ _ _ rfl]
        exact j_iret hC dX3_firstFault_61
theorem lp_X3_firstFault_L33 {Γ : jG} (hC : jOK Γ cX3_firstFault 4 RX3 (some .int) { frames := 4, cells := 0, slots := 0, locals := 92 }) {Q : State → Prop} (o1 : Nat) (n1 : Nat) (ho1 : GX[o1]? = some (0, n1)) (x2 : Int32) : ∀ (n : Nat) (x3 : Int32) (M : jM) (res : (Int32 × jM) ⊕ (Int32 × jM)), f_X3_firstFault_L33 o1 n1 n x3 M = some res → (∀ (r : Int32) (M' : jM), res = .inl (r, M') → Q = jQi Γ RX GX r M') → (∀ (e3 : Int32) (Me : jM), res = .inr (e3, Me) → jJ Γ GX RX 72 [(0, .ref (jad Γ 17)), (1, .ref (jad Γ o1)), (2, .int x2), (3, .int e3)] [] Me Q) → jJ Γ GX RX 33 [(0, .ref (jad Γ 17)), (1, .ref (jad Γ o1)), (2, .int x2), (3, .int x3)] [] M Q := by
  intro n
  induction n with
  | zero =>
    intro x3 M res h hQ hK
    exact jno h
  | succ n ih =>
    intro x3 M res h hQ hK
    exact lp_X3_firstFault_L33_b hC o1 n1 ho1 x2 (f_X3_firstFault_L33 o1 n1 n) ih x3 M res h hQ hK
theorem t_X3_firstFault (l : Launch) (E : jE) {o1 : Nat} {n1 : Nat} {a2 : Int32} (ho1 : GX[o1]? = some (0, n1)) {M : jM} {r : Int32} {M' : jM} (h : f_X3_firstFault o1 n1 a2 M = some (r, M')) : jCi l yX3_firstFault cX3_firstFault 4 (some .int) 4 92 E RX GX (fun a _ => [.ref (a 17), .ref (a o1), .int a2]) M r M' := by
  refine jCi_of (own := RX3) (by decide) rfl (fun _ _ => Nat.le_of_ble_eq_true rfl) ?_
  intro Γ hC
  show jJ Γ GX RX 0 [(0, .ref (jad Γ 17)), (1, .ref (jad Γ o1)), (2, .int a2)] [] M (jQi Γ RX GX r M')
  unfold f_X3_firstFault at h
  refine j_aload_n 0 (pc' := 1) hC dX3_firstFault_0 rfl rfl ?_
  refine j_aload_n 1 (pc' := 2) hC dX3_firstFault_1 rfl rfl ?_
  obtain ⟨M1, eM1, h⟩ := jlet_s h
  refine j_putq' (pc' := 5) hC dX3_firstFault_2 rfl fp_X3_18 gx17 (jov ho1) eM1 ?_
  refine j_aload_n 0 (pc' := 6) hC dX3_firstFault_5 rfl rfl ?_
  refine j_iload_n 2 (pc' := 7) hC dX3_firstFault_6 rfl rfl ?_
  refine j_aload_n 1 (pc' := 8) hC dX3_firstFault_7 rfl rfl ?_
  refine j_alen0 (v := (Int32.ofNat n1)) (pc' := 9) hC dX3_firstFault_8 rfl ho1 rfl ?_
  refine j_mmin (pc' := 12) hC dX3_firstFault_9 rfl cm_X3_29 ⟨Nat.le_of_ble_eq_true rfl, Nat.le_of_ble_eq_true rfl⟩ ?_
  obtain ⟨M2, eM2, h⟩ := jlet_s h
  refine j_puti' (pc' := 15) hC dX3_firstFault_12 rfl fp_X3_22 gx17 eM2 ?_
  refine j_aload_n 0 (pc' := 16) hC dX3_firstFault_15 rfl rfl ?_
  refine j_iconst (v := 0) (pc' := 17) hC dX3_firstFault_16 rfl rfl ?_
  obtain ⟨M3, eM3, h⟩ := jlet_s h
  refine j_puti' (pc' := 20) hC dX3_firstFault_17 rfl fp_X3_26 gx17 eM3 ?_
  refine j_aload_n 0 (pc' := 21) hC dX3_firstFault_20 rfl rfl ?_
  refine j_getr' (o2 := 18) (pc' := 24) hC dX3_firstFault_21 rfl fi_X3_12 gx17 rfl ?_
  obtain ⟨M4, hc5, h⟩ := jb1_s h
  refine j_callVv [] (pc' := 27) hC dX3_firstFault_24 rfl (t_X2_cleard _ _ hc5) gx18 vcl2 cv_X3_35 ⟨⟨Nat.le_of_ble_eq_true rfl, Nat.le_of_ble_eq_true rfl⟩, rfl, Nat.le_of_ble_eq_true rfl⟩ rfl rfl ?_
  refine j_aload_n 0 (pc' := 28) hC dX3_firstFault_27 rfl rfl ?_
  obtain ⟨M6, hc7, h⟩ := jb1_s h
  refine j_callVv [] (pc' := 31) hC dX3_firstFault_28 rfl (t_X3_skipBlanks _ _ hc7) gx17 vcl3 cv_X3_38 ⟨⟨Nat.le_of_ble_eq_true rfl, Nat.le_of_ble_eq_true rfl⟩, rfl, Nat.le_of_ble_eq_true rfl⟩ rfl rfl ?_
  refine j_iconst (v := 0) (pc' := 32) hC dX3_firstFault_31 rfl rfl ?_
  refine j_istore_n (pc' := 33) hC dX3_firstFault_32 rfl rfl (by decide) rfl ?_
  refine j_sub [1, 2, 3, 0] rfl ?_
  rcases jr2_s h with hm10 | ⟨v8, M9, hm10, h⟩
  · exact lp_X3_firstFault_L33 hC o1 n1 ho1 a2 jfu (0 : Int32) M6 _ hm10 (fun _ _ e => by cases e; rfl) (fun _ _ e => by cases e)
  · refine lp_X3_firstFault_L33 hC o1 n1 ho1 a2 jfu (0 : Int32) M6 _ hm10 (fun _ _ e => by cases e) (fun _ _ e => ?_)
    cases e
    refine j_aload_n 0 (pc' := 73) hC dX3_firstFault_72 rfl rfl ?_
    refine j_getr' (o2 := 18) (pc' := 76) hC dX3_firstFault_73 rfl fi_X3_12 gx17 rfl ?_
    refine j_geti' (pc' := 79) hC dX3_firstFault_76 rfl fi_X3_45 gx18 ?_
    refine j_if_ne (tgt := 89) (pc' := 82) hC dX3_firstFault_79 (by decide) rfl (fun c11 => ?_) (fun c11 => ?_)
    · have h := jit_f c11 h
      refine j_bipush (v := -9) (pc' := 91) hC dX3_firstFault_89 rfl rfl ?_
      obtain ⟨q0, q1⟩ := jinj2 h
      subst q0
      subst q1
      exact j_iret hC dX3_firstFault_91
    · have h := jit_t c11 h
      refine j_aload_n 0 (pc' := 83) hC dX3_firstFault_82 rfl rfl ?_
      refine j_geti' (pc' := 86) hC dX3_firstFault_83 rfl fi_X3_26 gx17 ?_
      refine j_goto (tgt := 91) (pc' := 0) hC dX3_firstFault_86 (by decide) ?_
      obtain ⟨q0, q1⟩ := jinj2 h
      subst q0
      subst q1
      exact j_iret hC dX3_firstFault_91
theorem t_X5_fault (l : Launch) (E : jE) {a1 : Int32} {M : jM} {r : Int32} {M' : jM} (h : f_X5_fault a1 M = some (r, M')) : jCi l yX5_fault cX5_fault 3 (some .int) 5 115 E RX GX (fun a _ => [.ref (a 0), .int a1]) M r M' := by
  refine jCi_of (own := RX5) (by decide) rfl (fun _ _ => Nat.le_of_ble_eq_true rfl) ?_
  intro Γ hC
  show jJ Γ GX RX 0 [(0, .ref (jad Γ 0)), (1, .int a1)] [] M (jQi Γ RX GX r M')
  unfold f_X5_fault at h
  refine j_aload_n 0 (pc' := 1) hC dX5_fault_0 rfl rfl ?_
  refine j_aload_n 0 (pc' := 2) hC dX5_fault_1 rfl rfl ?_
  refine j_getr' (o2 := 10) (pc' := 5) hC dX5_fault_2 rfl fi_X5_18 gx0 rfl ?_
  refine j_iload_n 1 (pc' := 6) hC dX5_fault_5 rfl rfl ?_
  obtain ⟨r1, M2, hc3, h⟩ := jb2_s h
  refine j_callVi [.ref (jad Γ 10), .int a1] (pc' := 9) hC dX5_fault_6 rfl (t_X5_refusalOfb _ _ hc3) gx0 vcl5 cv_X5_104 ⟨⟨Nat.le_of_ble_eq_true rfl, Nat.le_of_ble_eq_true rfl⟩, rfl, Nat.le_of_ble_eq_true rfl⟩ rfl rfl ?_
  refine j_istore_n (pc' := 10) hC dX5_fault_9 rfl rfl (by decide) rfl ?_
  refine j_iload_n 0 (pc' := 11) hC dX5_fault_10 rfl rfl ?_
  refine j_if_eq (tgt := 18) (pc' := 14) hC dX5_fault_11 (by decide) rfl (fun c4 => ?_) (fun c4 => ?_)
  · have h := jit_t c4 h
    refine j_aload_n 1 (pc' := 19) hC dX5_fault_18 rfl rfl ?_
    refine j_getr' (o2 := 17) (pc' := 22) hC dX5_fault_19 rfl fi_X5_24 gx0 rfl ?_
    refine j_aload_n 1 (pc' := 23) hC dX5_fault_22 rfl rfl ?_
    refine j_getr' (o2 := 10) (pc' := 26) hC dX5_fault_23 rfl fi_X5_18 gx0 rfl ?_
    refine j_getr' (o2 := 12) (pc' := 29) hC dX5_fault_26 rfl fi_X5_100 gx10 rfl ?_
    refine j_iload_n 2 (pc' := 30) hC dX5_fault_29 rfl rfl ?_
    obtain ⟨g5, h⟩ := jg_s h
    refine j_aald4 (o2 := (13 + a1.toNatClampNeg)) (pc' := 31) hC dX5_fault_30 rfl gx12 g5 (rxc12 g5) ?_
    refine j_aload_n 1 (pc' := 32) hC dX5_fault_31 rfl rfl ?_
    refine j_getr' (o2 := 10) (pc' := 35) hC dX5_fault_32 rfl fi_X5_18 gx0 rfl ?_
    refine j_getr' (o2 := 11) (pc' := 38) hC dX5_fault_35 rfl fi_X5_108 gx10 rfl ?_
    refine j_iload_n 2 (pc' := 39) hC dX5_fault_38 rfl rfl ?_
    obtain ⟨g6, h⟩ := jg_s h
    refine j_iald (pc' := 40) hC dX5_fault_39 rfl gx11 g6 ?_
    obtain ⟨r7, M8, hc9, h⟩ := jb2_s h
    refine j_callVi [.ref (jad Γ (13 + a1.toNatClampNeg)), .int (gi M2 11 a1.toNatClampNeg)] (pc' := 43) hC dX5_fault_40 rfl (t_X3_firstFault _ _ (gxc12 g5) hc9) gx17 vcl3 cv_X5_128 ⟨⟨Nat.le_of_ble_eq_true rfl, Nat.le_of_ble_eq_true rfl⟩, rfl, Nat.le_of_ble_eq_true rfl⟩ rfl rfl ?_
    obtain ⟨q0, q1⟩ := jinj2 h
    subst q0
    subst q1
    exact j_iret hC dX5_fault_43
  · have h := jit_f c4 h
    refine j_iload_n 0 (pc' := 15) hC dX5_fault_14 rfl rfl ?_
    refine j_goto (tgt := 43) (pc' := 0) hC dX5_fault_15 (by decide) ?_
    obtain ⟨q0, q1⟩ := jinj2 h
    subst q0
    subst q1
    exact j_iret hC dX5_fault_43
theorem t_X2_clear (l : Launch) (E : jE) {M : jM} {M' : jM} (h : f_X2_clear M = some M') : jCv l yX2_clear cX2_clear 1 (none) 0 0 E RX GX (fun a _ => [.ref (a 29)]) M M' := by
  refine jCv_of (own := RX2) (by decide) rfl (fun _ _ => Nat.le_of_ble_eq_true rfl) ?_
  intro Γ hC
  show jJ Γ GX RX 0 [(0, .ref (jad Γ 29))] [] M (jQv Γ RX GX M')
  unfold f_X2_clear at h
  refine j_aload_n 0 (pc' := 1) hC dX2_clear_0 rfl rfl ?_
  refine j_iconst (v := 0) (pc' := 2) hC dX2_clear_1 rfl rfl ?_
  obtain ⟨M1, eM1, h⟩ := jlet_s h
  refine j_puti' (pc' := 5) hC dX2_clear_2 rfl fp_X2_9 gx29 eM1 ?_
  refine j_aload_n 0 (pc' := 6) hC dX2_clear_5 rfl rfl ?_
  refine j_iconst (v := 0) (pc' := 7) hC dX2_clear_6 rfl rfl ?_
  obtain ⟨M2, eM2, h⟩ := jlet_s h
  refine j_puti' (pc' := 10) hC dX2_clear_7 rfl fp_X2_15 gx29 eM2 ?_
  have q8 := jinj1 h
  subst q8
  exact j_vret hC dX2_clear_10
theorem lp_X2_addDeed_L61_b {Γ : jG} (hC : jOK Γ cX2_addDeed 6 RX2 (none) { frames := 1, cells := 0, slots := 0, locals := 21 }) {Q : State → Prop} (x1 : Int32) (x2 : Int32) (rec : Int32 → Int32 → Int32 → jM → Option (Int32 × jM)) (ih : ∀ (x3 : Int32) (x4 : Int32) (x5 : Int32) (M : jM) (e5 : Int32) (Me : jM), rec x3 x4 x5 M = some (e5, Me) → jJ Γ GX RX 104 [(0, .ref (jad Γ 29)), (1, .int x1), (2, .int x2), (3, .int x3), (4, .int x4), (5, .int e5)] [] Me Q → jJ Γ GX RX 61 [(0, .ref (jad Γ 29)), (1, .int x1), (2, .int x2), (3, .int x3), (4, .int x4), (5, .int x5)] [] M Q) (x3 : Int32) (x4 : Int32) (x5 : Int32) (M : jM) (e5 : Int32) (Me : jM) (h : f_X2_addDeed_L61_b rec x3 x4 x5 M = some (e5, Me)) (hK : jJ Γ GX RX 104 [(0, .ref (jad Γ 29)), (1, .int x1), (2, .int x2), (3, .int x3), (4, .int x4), (5, .int e5)] [] Me Q) : jJ Γ GX RX 61 [(0, .ref (jad Γ 29)), (1, .int x1), (2, .int x2), (3, .int x3), (4, .int x4), (5, .int x5)] [] M Q := by
  unfold f_X2_addDeed_L61_b at h
  refine j_iload 5 (pc' := 63) hC dX2_addDeed_61 rfl rfl ?_
  refine j_iload 4 (pc' := 65) hC dX2_addDeed_63 rfl rfl ?_
  refine j_icmp_ge (tgt := 104) (pc' := 68) hC dX2_addDeed_65 (by decide) rfl (fun c1 => ?_) (fun c1 => ?_)
  · have h := jit_t c1 h
    obtain ⟨q0, q1⟩ := jinj2 h
    subst q0
    subst q1
    refine j_sub [0, 1, 2, 3, 4, 5] rfl ?_
    exact hK
  · have h := jit_f c1 h
    refine j_aload_n 0 (pc' := 69) hC dX2_addDeed_68 rfl rfl ?_
    refine j_getr' (o2 := 33) (pc' := 72) hC dX2_addDeed_69 rfl fi_X2_28 gx29 rfl ?_
    refine j_iload 4 (pc' := 74) hC dX2_addDeed_72 rfl rfl ?_
    refine j_dup2 (pc' := 75) hC dX2_addDeed_74 rfl rfl rfl ?_
    obtain ⟨g2, h⟩ := jg_s h
    refine j_iald (pc' := 76) hC dX2_addDeed_75 rfl gx33 g2 ?_
    refine j_iload_n 3 (pc' := 77) hC dX2_addDeed_76 rfl rfl ?_
    refine j_iload 5 (pc' := 79) hC dX2_addDeed_77 rfl rfl ?_
    obtain ⟨r3, hc4, h⟩ := jb1_s h
    refine j_callNi [.int x3, .int x5] (pc' := 82) hC dX2_addDeed_79 rfl (t_X5_isIn _ _ hc4) cn_X2_65 ⟨⟨Nat.le_of_ble_eq_true rfl, Nat.le_of_ble_eq_true rfl⟩, rfl, Nat.le_of_ble_eq_true rfl⟩ rfl rfl ?_
    obtain ⟨v7, hm9, h⟩ := jb1_s h
    have K8 : jJ Γ GX RX 96 [(0, .ref (jad Γ 29)), (1, .int x1), (2, .int x2), (3, .int x3), (4, .int x4), (5, .int x5)] [.int v7, .int (gi M 33 x4.toNatClampNeg), .int x4, .ref (jad Γ 33)] M Q := by
      refine j_ior (pc' := 97) hC dX2_addDeed_96 rfl ?_
      obtain ⟨g12, h⟩ := jg_s h
      obtain ⟨M13, eM13, h⟩ := jlet_s h
      refine j_iast' (pc' := 98) hC dX2_addDeed_97 rfl gx33 g12 eM13 ?_
      obtain ⟨v14, ev14, h⟩ := jlet_s h
      refine j_iinc' 5 (c := 1) (pc' := 101) hC dX2_addDeed_98 rfl rfl rfl ev14 (by decide) rfl ?_
      refine j_goto (tgt := 61) (pc' := 0) hC dX2_addDeed_101 (by decide) ?_
      refine j_sub [1, 2, 3, 4, 5, 0] rfl ?_
      exact ih _ _ _ _ _ _ h hK
    refine j_if_eq (tgt := 95) (pc' := 85) hC dX2_addDeed_82 (by decide) rfl (fun c10 => ?_) (fun c10 => ?_)
    · have hm9 := jit_t c10 hm9
      refine j_iconst (v := 0) (pc' := 96) hC dX2_addDeed_95 rfl rfl ?_
      have q8 := jinj1 hm9
      subst q8
      exact j_sub [0, 1, 2, 3, 4, 5] rfl K8
    · have hm9 := jit_f c10 hm9
      refine j_aload_n 0 (pc' := 86) hC dX2_addDeed_85 rfl rfl ?_
      refine j_getr' (o2 := 33) (pc' := 89) hC dX2_addDeed_86 rfl fi_X2_28 gx29 rfl ?_
      refine j_iload 5 (pc' := 91) hC dX2_addDeed_89 rfl rfl ?_
      obtain ⟨g11, hm9⟩ := jg_s hm9
      refine j_iald (pc' := 92) hC dX2_addDeed_91 rfl gx33 g11 ?_
      refine j_goto (tgt := 96) (pc' := 0) hC dX2_addDeed_92 (by decide) ?_
      have q8 := jinj1 hm9
      subst q8
      exact j_sub [0, 1, 2, 3, 4, 5] rfl K8
theorem lp_X2_addDeed_L61 {Γ : jG} (hC : jOK Γ cX2_addDeed 6 RX2 (none) { frames := 1, cells := 0, slots := 0, locals := 21 }) {Q : State → Prop} (x1 : Int32) (x2 : Int32) : ∀ (n : Nat) (x3 : Int32) (x4 : Int32) (x5 : Int32) (M : jM) (e5 : Int32) (Me : jM), f_X2_addDeed_L61 n x3 x4 x5 M = some (e5, Me) → jJ Γ GX RX 104 [(0, .ref (jad Γ 29)), (1, .int x1), (2, .int x2), (3, .int x3), (4, .int x4), (5, .int e5)] [] Me Q → jJ Γ GX RX 61 [(0, .ref (jad Γ 29)), (1, .int x1), (2, .int x2), (3, .int x3), (4, .int x4), (5, .int x5)] [] M Q := by
  intro n
  induction n with
  | zero =>
    intro x3 x4 x5 M e5 Me h hK
    exact jno h
  | succ n ih =>
    intro x3 x4 x5 M e5 Me h hK
    exact lp_X2_addDeed_L61_b hC x1 x2 (f_X2_addDeed_L61 n) ih x3 x4 x5 M e5 Me h hK
theorem t_X2_addDeed (l : Launch) (E : jE) {a1 : Int32} {a2 : Int32} {a3 : Int32} {M : jM} {M' : jM} (h : f_X2_addDeed a1 a2 a3 M = some M') : jCv l yX2_addDeed cX2_addDeed 6 (none) 1 21 E RX GX (fun a _ => [.ref (a 29), .int a1, .int a2, .int a3]) M M' := by
  refine jCv_of (own := RX2) (by decide) rfl (fun _ _ => Nat.le_of_ble_eq_true rfl) ?_
  intro Γ hC
  show jJ Γ GX RX 0 [(0, .ref (jad Γ 29)), (1, .int a1), (2, .int a2), (3, .int a3)] [] M (jQv Γ RX GX M')
  unfold f_X2_addDeed at h
  refine j_aload_n 0 (pc' := 1) hC dX2_addDeed_0 rfl rfl ?_
  refine j_geti' (pc' := 4) hC dX2_addDeed_1 rfl fi_X2_9 gx29 ?_
  refine j_bipush (v := 6) (pc' := 6) hC dX2_addDeed_4 rfl rfl ?_
  refine j_icmp_lt (tgt := 10) (pc' := 9) hC dX2_addDeed_6 (by decide) rfl (fun c1 => ?_) (fun c1 => ?_)
  · have h := jit_t c1 h
    refine j_aload_n 0 (pc' := 11) hC dX2_addDeed_10 rfl rfl ?_
    refine j_geti' (pc' := 14) hC dX2_addDeed_11 rfl fi_X2_9 gx29 ?_
    obtain ⟨v2, ev2, h⟩ := jlet_s h
    refine j_istore (pc' := 16) hC dX2_addDeed_14 rfl ev2 (by decide) rfl ?_
    refine j_aload_n 1 (pc' := 17) hC dX2_addDeed_16 rfl rfl ?_
    refine j_dup (pc' := 18) hC dX2_addDeed_17 rfl rfl ?_
    refine j_geti' (pc' := 21) hC dX2_addDeed_18 rfl fi_X2_9 gx29 ?_
    refine j_iconst (v := 1) (pc' := 22) hC dX2_addDeed_21 rfl rfl ?_
    refine j_iadd (pc' := 23) hC dX2_addDeed_22 rfl ?_
    obtain ⟨M3, eM3, h⟩ := jlet_s h
    refine j_puti' (pc' := 26) hC dX2_addDeed_23 rfl fp_X2_9 gx29 eM3 ?_
    refine j_aload_n 1 (pc' := 27) hC dX2_addDeed_26 rfl rfl ?_
    refine j_getr' (o2 := 30) (pc' := 30) hC dX2_addDeed_27 rfl fi_X2_18 gx29 rfl ?_
    refine j_iload 0 (pc' := 32) hC dX2_addDeed_30 rfl rfl ?_
    refine j_iload_n 2 (pc' := 33) hC dX2_addDeed_32 rfl rfl ?_
    obtain ⟨g4, h⟩ := jg_s h
    obtain ⟨M5, eM5, h⟩ := jlet_s h
    refine j_iast' (pc' := 34) hC dX2_addDeed_33 rfl gx30 g4 eM5 ?_
    refine j_aload_n 1 (pc' := 35) hC dX2_addDeed_34 rfl rfl ?_
    refine j_getr' (o2 := 31) (pc' := 38) hC dX2_addDeed_35 rfl fi_X2_22 gx29 rfl ?_
    refine j_iload 0 (pc' := 40) hC dX2_addDeed_38 rfl rfl ?_
    refine j_iload_n 3 (pc' := 41) hC dX2_addDeed_40 rfl rfl ?_
    obtain ⟨g6, h⟩ := jg_s h
    obtain ⟨M7, eM7, h⟩ := jlet_s h
    refine j_iast' (pc' := 42) hC dX2_addDeed_41 rfl gx31 g6 eM7 ?_
    refine j_aload_n 1 (pc' := 43) hC dX2_addDeed_42 rfl rfl ?_
    refine j_getr' (o2 := 32) (pc' := 46) hC dX2_addDeed_43 rfl fi_X2_25 gx29 rfl ?_
    refine j_iload 0 (pc' := 48) hC dX2_addDeed_46 rfl rfl ?_
    refine j_iload_n 4 (pc' := 49) hC dX2_addDeed_48 rfl rfl ?_
    obtain ⟨g8, h⟩ := jg_s h
    obtain ⟨M9, eM9, h⟩ := jlet_s h
    refine j_iast' (pc' := 50) hC dX2_addDeed_49 rfl gx32 g8 eM9 ?_
    refine j_aload_n 1 (pc' := 51) hC dX2_addDeed_50 rfl rfl ?_
    refine j_getr' (o2 := 33) (pc' := 54) hC dX2_addDeed_51 rfl fi_X2_28 gx29 rfl ?_
    refine j_iload 0 (pc' := 56) hC dX2_addDeed_54 rfl rfl ?_
    refine j_iload_n 4 (pc' := 57) hC dX2_addDeed_56 rfl rfl ?_
    obtain ⟨g10, h⟩ := jg_s h
    obtain ⟨M11, eM11, h⟩ := jlet_s h
    refine j_iast' (pc' := 58) hC dX2_addDeed_57 rfl gx33 g10 eM11 ?_
    refine j_iconst (v := 0) (pc' := 59) hC dX2_addDeed_58 rfl rfl ?_
    refine j_istore (pc' := 61) hC dX2_addDeed_59 rfl rfl (by decide) rfl ?_
    refine j_sub [2, 3, 4, 5, 1, 0] rfl ?_
    obtain ⟨v12, M13, hm14, h⟩ := jb2_s h
    refine lp_X2_addDeed_L61 hC a1 a2 jfu a3 v2 (0 : Int32) M11 v12 M13 hm14 ?_
    have q8 := jinj1 h
    subst q8
    exact j_vret hC dX2_addDeed_104
  · have h := jit_f c1 h
    have q8 := jinj1 h
    subst q8
    exact j_vret hC dX2_addDeed_9
theorem t_X2_addHour (l : Launch) (E : jE) {a1 : Int32} {a2 : Int32} {a3 : Int32} {M : jM} {M' : jM} (h : f_X2_addHour a1 a2 a3 M = some M') : jCv l yX2_addHour cX2_addHour 4 (none) 0 0 E RX GX (fun a _ => [.ref (a 29), .int a1, .int a2, .int a3]) M M' := by
  refine jCv_of (own := RX2) (by decide) rfl (fun _ _ => Nat.le_of_ble_eq_true rfl) ?_
  intro Γ hC
  show jJ Γ GX RX 0 [(0, .ref (jad Γ 29)), (1, .int a1), (2, .int a2), (3, .int a3)] [] M (jQv Γ RX GX M')
  unfold f_X2_addHour at h
  refine j_aload_n 0 (pc' := 1) hC dX2_addHour_0 rfl rfl ?_
  refine j_geti' (pc' := 4) hC dX2_addHour_1 rfl fi_X2_15 gx29 ?_
  refine j_bipush (v := 7) (pc' := 6) hC dX2_addHour_4 rfl rfl ?_
  refine j_icmp_lt (tgt := 10) (pc' := 9) hC dX2_addHour_6 (by decide) rfl (fun c1 => ?_) (fun c1 => ?_)
  · have h := jit_t c1 h
    refine j_aload_n 0 (pc' := 11) hC dX2_addHour_10 rfl rfl ?_
    refine j_getr' (o2 := 34) (pc' := 14) hC dX2_addHour_11 rfl fi_X2_31 gx29 rfl ?_
    refine j_aload_n 0 (pc' := 15) hC dX2_addHour_14 rfl rfl ?_
    refine j_geti' (pc' := 18) hC dX2_addHour_15 rfl fi_X2_15 gx29 ?_
    refine j_iload_n 1 (pc' := 19) hC dX2_addHour_18 rfl rfl ?_
    obtain ⟨g2, h⟩ := jg_s h
    obtain ⟨M3, eM3, h⟩ := jlet_s h
    refine j_iast' (pc' := 20) hC dX2_addHour_19 rfl gx34 g2 eM3 ?_
    refine j_aload_n 0 (pc' := 21) hC dX2_addHour_20 rfl rfl ?_
    refine j_getr' (o2 := 35) (pc' := 24) hC dX2_addHour_21 rfl fi_X2_34 gx29 rfl ?_
    refine j_aload_n 0 (pc' := 25) hC dX2_addHour_24 rfl rfl ?_
    refine j_geti' (pc' := 28) hC dX2_addHour_25 rfl fi_X2_15 gx29 ?_
    refine j_iload_n 2 (pc' := 29) hC dX2_addHour_28 rfl rfl ?_
    obtain ⟨g4, h⟩ := jg_s h
    obtain ⟨M5, eM5, h⟩ := jlet_s h
    refine j_iast' (pc' := 30) hC dX2_addHour_29 rfl gx35 g4 eM5 ?_
    refine j_aload_n 0 (pc' := 31) hC dX2_addHour_30 rfl rfl ?_
    refine j_getr' (o2 := 36) (pc' := 34) hC dX2_addHour_31 rfl fi_X2_37 gx29 rfl ?_
    refine j_aload_n 0 (pc' := 35) hC dX2_addHour_34 rfl rfl ?_
    refine j_geti' (pc' := 38) hC dX2_addHour_35 rfl fi_X2_15 gx29 ?_
    refine j_iload_n 3 (pc' := 39) hC dX2_addHour_38 rfl rfl ?_
    obtain ⟨g6, h⟩ := jg_s h
    obtain ⟨M7, eM7, h⟩ := jlet_s h
    refine j_iast' (pc' := 40) hC dX2_addHour_39 rfl gx36 g6 eM7 ?_
    refine j_aload_n 0 (pc' := 41) hC dX2_addHour_40 rfl rfl ?_
    refine j_dup (pc' := 42) hC dX2_addHour_41 rfl rfl ?_
    refine j_geti' (pc' := 45) hC dX2_addHour_42 rfl fi_X2_15 gx29 ?_
    refine j_iconst (v := 1) (pc' := 46) hC dX2_addHour_45 rfl rfl ?_
    refine j_iadd (pc' := 47) hC dX2_addHour_46 rfl ?_
    obtain ⟨M8, eM8, h⟩ := jlet_s h
    refine j_puti' (pc' := 50) hC dX2_addHour_47 rfl fp_X2_15 gx29 eM8 ?_
    have q8 := jinj1 h
    subst q8
    exact j_vret hC dX2_addHour_50
  · have h := jit_f c1 h
    have q8 := jinj1 h
    subst q8
    exact j_vret hC dX2_addHour_9
theorem t_J6_bitCount_0f7a4 (l : Launch) (E : jE) {G : List (Nat × Nat)} {Rf : Nat → Nat → Option Nat} {a1 : Int32} {M : jM} {r : Int32} (h : f_J6_bitCount_0f7a4 a1 M = some r) : jCi l yJ6_bitCount_0f7a4 cJ6_bitCount_0f7a4 1 (some .int) 0 0 E Rf G (fun _ _ => [.int a1]) M r M := by
  refine jCi_of (own := RJ6) (by decide) rfl (fun _ _ => Nat.le_of_ble_eq_true rfl) ?_
  intro Γ hC
  show jJ Γ G Rf 0 [(0, .int a1)] [] M (jQi Γ Rf G r M)
  unfold f_J6_bitCount_0f7a4 at h
  refine j_iload_n 0 (pc' := 1) hC dJ6_bitCount_0f7a4_0 rfl rfl ?_
  refine j_iload_n 0 (pc' := 2) hC dJ6_bitCount_0f7a4_1 rfl rfl ?_
  refine j_iconst (v := 1) (pc' := 3) hC dJ6_bitCount_0f7a4_2 rfl rfl ?_
  refine j_iushr (pc' := 4) hC dJ6_bitCount_0f7a4_3 rfl ?_
  refine j_ldcw (pc' := 7) hC dJ6_bitCount_0f7a4_4 rfl ck_J6_265 ?_
  refine j_iand (pc' := 8) hC dJ6_bitCount_0f7a4_7 rfl ?_
  refine j_isub (pc' := 9) hC dJ6_bitCount_0f7a4_8 rfl ?_
  obtain ⟨v1, ev1, h⟩ := jlet_s h
  refine j_istore_n (pc' := 10) hC dJ6_bitCount_0f7a4_9 rfl ev1 (by decide) rfl ?_
  refine j_iload_n 0 (pc' := 11) hC dJ6_bitCount_0f7a4_10 rfl rfl ?_
  refine j_ldcw (pc' := 14) hC dJ6_bitCount_0f7a4_11 rfl ck_J6_266 ?_
  refine j_iand (pc' := 15) hC dJ6_bitCount_0f7a4_14 rfl ?_
  refine j_iload_n 0 (pc' := 16) hC dJ6_bitCount_0f7a4_15 rfl rfl ?_
  refine j_iconst (v := 2) (pc' := 17) hC dJ6_bitCount_0f7a4_16 rfl rfl ?_
  refine j_iushr (pc' := 18) hC dJ6_bitCount_0f7a4_17 rfl ?_
  refine j_ldcw (pc' := 21) hC dJ6_bitCount_0f7a4_18 rfl ck_J6_266 ?_
  refine j_iand (pc' := 22) hC dJ6_bitCount_0f7a4_21 rfl ?_
  refine j_iadd (pc' := 23) hC dJ6_bitCount_0f7a4_22 rfl ?_
  obtain ⟨v2, ev2, h⟩ := jlet_s h
  refine j_istore_n (pc' := 24) hC dJ6_bitCount_0f7a4_23 rfl ev2 (by decide) rfl ?_
  refine j_iload_n 0 (pc' := 25) hC dJ6_bitCount_0f7a4_24 rfl rfl ?_
  refine j_iload_n 0 (pc' := 26) hC dJ6_bitCount_0f7a4_25 rfl rfl ?_
  refine j_iconst (v := 4) (pc' := 27) hC dJ6_bitCount_0f7a4_26 rfl rfl ?_
  refine j_iushr (pc' := 28) hC dJ6_bitCount_0f7a4_27 rfl ?_
  refine j_iadd (pc' := 29) hC dJ6_bitCount_0f7a4_28 rfl ?_
  refine j_ldcw (pc' := 32) hC dJ6_bitCount_0f7a4_29 rfl ck_J6_267 ?_
  refine j_iand (pc' := 33) hC dJ6_bitCount_0f7a4_32 rfl ?_
  obtain ⟨v3, ev3, h⟩ := jlet_s h
  refine j_istore_n (pc' := 34) hC dJ6_bitCount_0f7a4_33 rfl ev3 (by decide) rfl ?_
  refine j_iload_n 0 (pc' := 35) hC dJ6_bitCount_0f7a4_34 rfl rfl ?_
  refine j_iload_n 0 (pc' := 36) hC dJ6_bitCount_0f7a4_35 rfl rfl ?_
  refine j_bipush (v := 8) (pc' := 38) hC dJ6_bitCount_0f7a4_36 rfl rfl ?_
  refine j_iushr (pc' := 39) hC dJ6_bitCount_0f7a4_38 rfl ?_
  refine j_iadd (pc' := 40) hC dJ6_bitCount_0f7a4_39 rfl ?_
  obtain ⟨v4, ev4, h⟩ := jlet_s h
  refine j_istore_n (pc' := 41) hC dJ6_bitCount_0f7a4_40 rfl ev4 (by decide) rfl ?_
  refine j_iload_n 0 (pc' := 42) hC dJ6_bitCount_0f7a4_41 rfl rfl ?_
  refine j_iload_n 0 (pc' := 43) hC dJ6_bitCount_0f7a4_42 rfl rfl ?_
  refine j_bipush (v := 16) (pc' := 45) hC dJ6_bitCount_0f7a4_43 rfl rfl ?_
  refine j_iushr (pc' := 46) hC dJ6_bitCount_0f7a4_45 rfl ?_
  refine j_iadd (pc' := 47) hC dJ6_bitCount_0f7a4_46 rfl ?_
  obtain ⟨v5, ev5, h⟩ := jlet_s h
  refine j_istore_n (pc' := 48) hC dJ6_bitCount_0f7a4_47 rfl ev5 (by decide) rfl ?_
  refine j_iload_n 0 (pc' := 49) hC dJ6_bitCount_0f7a4_48 rfl rfl ?_
  refine j_bipush (v := 63) (pc' := 51) hC dJ6_bitCount_0f7a4_49 rfl rfl ?_
  refine j_iand (pc' := 52) hC dJ6_bitCount_0f7a4_51 rfl ?_
  have q8 := jinj1 h
  subst q8
  exact j_iret hC dJ6_bitCount_0f7a4_52
theorem t_X2_company (l : Launch) (E : jE) {a1 : Int32} {a2 : Int32} {M : jM} {r : Int32} (h : f_X2_company a1 a2 M = some r) : jCi l yX2_company cX2_company 3 (some .int) 1 20 E RX GX (fun a _ => [.ref (a 29), .int a1, .int a2]) M r M := by
  refine jCi_of (own := RX2) (by decide) rfl (fun _ _ => Nat.le_of_ble_eq_true rfl) ?_
  intro Γ hC
  show jJ Γ GX RX 0 [(0, .ref (jad Γ 29)), (1, .int a1), (2, .int a2)] [] M (jQi Γ RX GX r M)
  unfold f_X2_company at h
  refine j_iload_n 2 (pc' := 1) hC dX2_company_0 rfl rfl ?_
  refine j_aload_n 0 (pc' := 2) hC dX2_company_1 rfl rfl ?_
  refine j_getr' (o2 := 32) (pc' := 5) hC dX2_company_2 rfl fi_X2_25 gx29 rfl ?_
  refine j_iload_n 1 (pc' := 6) hC dX2_company_5 rfl rfl ?_
  obtain ⟨g1, h⟩ := jg_s h
  refine j_iald (pc' := 7) hC dX2_company_6 rfl gx32 g1 ?_
  refine j_iconst (v := -1) (pc' := 8) hC dX2_company_7 rfl rfl ?_
  refine j_ixor (pc' := 9) hC dX2_company_8 rfl ?_
  refine j_iand (pc' := 10) hC dX2_company_9 rfl ?_
  obtain ⟨r2, hc3, h⟩ := jb1_s h
  refine j_callSi [.int (a2 &&& ((gi M 32 a1.toNatClampNeg) ^^^ (-1 : Int32)))] (pc' := 13) hC dX2_company_10 rfl (t_J6_bitCount_0f7a4 _ _ hc3) cs_X2_89 ⟨⟨Nat.le_of_ble_eq_true rfl, Nat.le_of_ble_eq_true rfl⟩, rfl, Nat.le_of_ble_eq_true rfl⟩ rfl rfl ?_
  have q8 := jinj1 h
  subst q8
  exact j_iret hC dX2_company_13
theorem t_X2_hasCompany (l : Launch) (E : jE) {a1 : Int32} {a2 : Int32} {M : jM} {r : Int32} (h : f_X2_hasCompany a1 a2 M = some r) : jCi l yX2_hasCompany cX2_hasCompany 3 (some .boolean) 2 42 E RX GX (fun a _ => [.ref (a 29), .int a1, .int a2]) M r M := by
  refine jCi_of (own := RX2) (by decide) rfl (fun _ _ => Nat.le_of_ble_eq_true rfl) ?_
  intro Γ hC
  show jJ Γ GX RX 0 [(0, .ref (jad Γ 29)), (1, .int a1), (2, .int a2)] [] M (jQi Γ RX GX r M)
  unfold f_X2_hasCompany at h
  refine j_aload_n 0 (pc' := 1) hC dX2_hasCompany_0 rfl rfl ?_
  refine j_getr' (o2 := 30) (pc' := 4) hC dX2_hasCompany_1 rfl fi_X2_18 gx29 rfl ?_
  refine j_iload_n 1 (pc' := 5) hC dX2_hasCompany_4 rfl rfl ?_
  obtain ⟨g1, h⟩ := jg_s h
  refine j_iald (pc' := 6) hC dX2_hasCompany_5 rfl gx30 g1 ?_
  refine j_iconst (v := 4) (pc' := 7) hC dX2_hasCompany_6 rfl rfl ?_
  refine j_icmp_ne (tgt := 20) (pc' := 10) hC dX2_hasCompany_7 (by decide) rfl (fun c2 => ?_) (fun c2 => ?_)
  · have h := jit_f c2 h
    refine j_iconst (v := 1) (pc' := 21) hC dX2_hasCompany_20 rfl rfl ?_
    refine j_goto (tgt := 25) (pc' := 0) hC dX2_hasCompany_21 (by decide) ?_
    have q8 := jinj1 h
    subst q8
    exact j_zret hC dX2_hasCompany_25 (by decide)
  · have h := jit_t c2 h
    refine j_aload_n 0 (pc' := 11) hC dX2_hasCompany_10 rfl rfl ?_
    refine j_iload_n 1 (pc' := 12) hC dX2_hasCompany_11 rfl rfl ?_
    refine j_iload_n 2 (pc' := 13) hC dX2_hasCompany_12 rfl rfl ?_
    obtain ⟨r3, hc4, h⟩ := jb1_s h
    refine j_callVi [.int a1, .int a2] (pc' := 16) hC dX2_hasCompany_13 rfl (t_X2_company _ _ hc4) gx29 vcl2 cv_X2_85 ⟨⟨Nat.le_of_ble_eq_true rfl, Nat.le_of_ble_eq_true rfl⟩, rfl, Nat.le_of_ble_eq_true rfl⟩ rfl rfl ?_
    refine j_iconst (v := 2) (pc' := 17) hC dX2_hasCompany_16 rfl rfl ?_
    refine j_icmp_lt (tgt := 24) (pc' := 20) hC dX2_hasCompany_17 (by decide) rfl (fun c5 => ?_) (fun c5 => ?_)
    · have h := jit_t c5 h
      refine j_iconst (v := 0) (pc' := 25) hC dX2_hasCompany_24 rfl rfl ?_
      have q8 := jinj1 h
      subst q8
      exact j_zret hC dX2_hasCompany_25 (by decide)
    · have h := jit_f c5 h
      refine j_iconst (v := 1) (pc' := 21) hC dX2_hasCompany_20 rfl rfl ?_
      refine j_goto (tgt := 25) (pc' := 0) hC dX2_hasCompany_21 (by decide) ?_
      have q8 := jinj1 h
      subst q8
      exact j_zret hC dX2_hasCompany_25 (by decide)
theorem lp_X2_setsReadyFor_L5_b {Γ : jG} (hC : jOK Γ cX2_setsReadyFor 6 RX2 (some .long) { frames := 3, cells := 0, slots := 0, locals := 64 }) {Q : State → Prop} (rec : Int32 → Int64 → Int32 → jM → Option (Int64 × Int32)) (ih : ∀ (x1 : Int32) (x2 : Int64) (x4 : Int32) (M : jM) (e2 : Int64) (e4 : Int32), rec x1 x2 x4 M = some (e2, e4) → jJ Γ GX RX 74 [(0, .ref (jad Γ 29)), (1, .int x1), (2, .long e2), (4, .int e4)] [] M Q → jJ Γ GX RX 5 [(0, .ref (jad Γ 29)), (1, .int x1), (2, .long x2), (4, .int x4)] [] M Q) (x1 : Int32) (x2 : Int64) (x4 : Int32) (M : jM) (e2 : Int64) (e4 : Int32) (h : f_X2_setsReadyFor_L5_b rec x1 x2 x4 M = some (e2, e4)) (hK : jJ Γ GX RX 74 [(0, .ref (jad Γ 29)), (1, .int x1), (2, .long e2), (4, .int e4)] [] M Q) : jJ Γ GX RX 5 [(0, .ref (jad Γ 29)), (1, .int x1), (2, .long x2), (4, .int x4)] [] M Q := by
  unfold f_X2_setsReadyFor_L5_b at h
  refine j_iload 3 (pc' := 7) hC dX2_setsReadyFor_5 rfl rfl ?_
  refine j_bipush (v := 64) (pc' := 9) hC dX2_setsReadyFor_7 rfl rfl ?_
  refine j_icmp_ge (tgt := 74) (pc' := 12) hC dX2_setsReadyFor_9 (by decide) rfl (fun c1 => ?_) (fun c1 => ?_)
  · have h := jit_t c1 h
    obtain ⟨q0, q1⟩ := jinj2 h
    subst q0
    subst q1
    refine j_sub [0, 1, 2, 3] rfl ?_
    exact hK
  · have h := jit_f c1 h
    refine j_iload 3 (pc' := 14) hC dX2_setsReadyFor_12 rfl rfl ?_
    refine j_iload_n 1 (pc' := 15) hC dX2_setsReadyFor_14 rfl rfl ?_
    obtain ⟨r2, hc3, h⟩ := jb1_s h
    refine j_callNi [.int x4, .int x1] (pc' := 18) hC dX2_setsReadyFor_15 rfl (t_X5_isIn _ _ hc3) cn_X2_65 ⟨⟨Nat.le_of_ble_eq_true rfl, Nat.le_of_ble_eq_true rfl⟩, rfl, Nat.le_of_ble_eq_true rfl⟩ rfl rfl ?_
    obtain ⟨v10, hm12, h⟩ := jb1_s h
    have K11 : jJ Γ GX RX 50 [(0, .ref (jad Γ 29)), (1, .int x1), (2, .long x2), (4, .int x4)] [.int v10] M Q := by
      refine j_istore (pc' := 52) hC dX2_setsReadyFor_50 rfl rfl (by decide) rfl ?_
      refine j_lload_n 3 (pc' := 53) hC dX2_setsReadyFor_52 rfl rfl ?_
      refine j_iload 0 (pc' := 55) hC dX2_setsReadyFor_53 rfl rfl ?_
      obtain ⟨v20, hm22, h⟩ := jlet_s h
      have K21 : jJ Γ GX RX 66 [(0, .ref (jad Γ 29)), (1, .int x1), (2, .long x2), (4, .int x4), (5, .int v10)] [.long v20, .long x2] M Q := by
        refine j_lor (pc' := 67) hC dX2_setsReadyFor_66 rfl ?_
        obtain ⟨v24, ev24, h⟩ := jlet_s h
        refine j_lstore_n (pc' := 68) hC dX2_setsReadyFor_67 rfl ev24 (by decide) rfl ?_
        obtain ⟨v25, ev25, h⟩ := jlet_s h
        refine j_iinc' 3 (c := 1) (pc' := 71) hC dX2_setsReadyFor_68 rfl rfl rfl ev25 (by decide) rfl ?_
        refine j_goto (tgt := 5) (pc' := 0) hC dX2_setsReadyFor_71 (by decide) ?_
        refine j_sub [2, 3, 1, 0] rfl ?_
        exact ih _ _ _ _ _ _ h hK
      refine j_if_eq (tgt := 65) (pc' := 58) hC dX2_setsReadyFor_55 (by decide) rfl (fun c23 => ?_) (fun c23 => ?_)
      · have hm22 := jit_t c23 hm22
        refine j_lconst (v := 0) (pc' := 66) hC dX2_setsReadyFor_65 rfl rfl ?_
        subst hm22
        exact j_sub [1, 2, 3, 4, 0] rfl K21
      · have hm22 := jit_f c23 hm22
        refine j_lconst (v := 1) (pc' := 59) hC dX2_setsReadyFor_58 rfl rfl ?_
        refine j_iload 4 (pc' := 61) hC dX2_setsReadyFor_59 rfl rfl ?_
        refine j_lshl (pc' := 62) hC dX2_setsReadyFor_61 rfl ?_
        refine j_goto (tgt := 66) (pc' := 0) hC dX2_setsReadyFor_62 (by decide) ?_
        subst hm22
        exact j_sub [1, 2, 3, 4, 0] rfl K21
    refine j_if_ne (tgt := 49) (pc' := 21) hC dX2_setsReadyFor_18 (by decide) rfl (fun c13 => ?_) (fun c13 => ?_)
    · have hm12 := jit_f c13 hm12
      refine j_iconst (v := 0) (pc' := 50) hC dX2_setsReadyFor_49 rfl rfl ?_
      have q8 := jinj1 hm12
      subst q8
      exact j_sub [0, 1, 2, 3] rfl K11
    · have hm12 := jit_t c13 hm12
      refine j_aload_n 0 (pc' := 22) hC dX2_setsReadyFor_21 rfl rfl ?_
      refine j_getr' (o2 := 32) (pc' := 25) hC dX2_setsReadyFor_22 rfl fi_X2_25 gx29 rfl ?_
      refine j_iload_n 1 (pc' := 26) hC dX2_setsReadyFor_25 rfl rfl ?_
      obtain ⟨g14, hm12⟩ := jg_s hm12
      refine j_iald (pc' := 27) hC dX2_setsReadyFor_26 rfl gx32 g14 ?_
      refine j_iload 3 (pc' := 29) hC dX2_setsReadyFor_27 rfl rfl ?_
      refine j_iconst (v := -1) (pc' := 30) hC dX2_setsReadyFor_29 rfl rfl ?_
      refine j_ixor (pc' := 31) hC dX2_setsReadyFor_30 rfl ?_
      refine j_iand (pc' := 32) hC dX2_setsReadyFor_31 rfl ?_
      refine j_if_ne (tgt := 49) (pc' := 35) hC dX2_setsReadyFor_32 (by decide) rfl (fun c15 => ?_) (fun c15 => ?_)
      · have hm12 := jit_f c15 hm12
        refine j_iconst (v := 0) (pc' := 50) hC dX2_setsReadyFor_49 rfl rfl ?_
        have q8 := jinj1 hm12
        subst q8
        exact j_sub [0, 1, 2, 3] rfl K11
      · have hm12 := jit_t c15 hm12
        refine j_aload_n 0 (pc' := 36) hC dX2_setsReadyFor_35 rfl rfl ?_
        refine j_iload_n 1 (pc' := 37) hC dX2_setsReadyFor_36 rfl rfl ?_
        refine j_iload 3 (pc' := 39) hC dX2_setsReadyFor_37 rfl rfl ?_
        obtain ⟨r16, hc17, hm12⟩ := jb1_s hm12
        refine j_callVi [.int x1, .int x4] (pc' := 42) hC dX2_setsReadyFor_39 rfl (t_X2_hasCompany _ _ hc17) gx29 vcl2 cv_X2_69 ⟨⟨Nat.le_of_ble_eq_true rfl, Nat.le_of_ble_eq_true rfl⟩, rfl, Nat.le_of_ble_eq_true rfl⟩ rfl rfl ?_
        refine j_if_eq (tgt := 49) (pc' := 45) hC dX2_setsReadyFor_42 (by decide) rfl (fun c18 => ?_) (fun c18 => ?_)
        · have hm12 := jit_t c18 hm12
          refine j_iconst (v := 0) (pc' := 50) hC dX2_setsReadyFor_49 rfl rfl ?_
          have q8 := jinj1 hm12
          subst q8
          exact j_sub [0, 1, 2, 3] rfl K11
        · have hm12 := jit_f c18 hm12
          refine j_iconst (v := 1) (pc' := 46) hC dX2_setsReadyFor_45 rfl rfl ?_
          refine j_goto (tgt := 50) (pc' := 0) hC dX2_setsReadyFor_46 (by decide) ?_
          have q8 := jinj1 hm12
          subst q8
          exact j_sub [0, 1, 2, 3] rfl K11
theorem lp_X2_setsReadyFor_L5 {Γ : jG} (hC : jOK Γ cX2_setsReadyFor 6 RX2 (some .long) { frames := 3, cells := 0, slots := 0, locals := 64 }) {Q : State → Prop} : ∀ (n : Nat) (x1 : Int32) (x2 : Int64) (x4 : Int32) (M : jM) (e2 : Int64) (e4 : Int32), f_X2_setsReadyFor_L5 n x1 x2 x4 M = some (e2, e4) → jJ Γ GX RX 74 [(0, .ref (jad Γ 29)), (1, .int x1), (2, .long e2), (4, .int e4)] [] M Q → jJ Γ GX RX 5 [(0, .ref (jad Γ 29)), (1, .int x1), (2, .long x2), (4, .int x4)] [] M Q := by
  intro n
  induction n with
  | zero =>
    intro x1 x2 x4 M e2 e4 h hK
    exact jno h
  | succ n ih =>
    intro x1 x2 x4 M e2 e4 h hK
    exact lp_X2_setsReadyFor_L5_b hC (f_X2_setsReadyFor_L5 n) ih x1 x2 x4 M e2 e4 h hK
theorem t_X2_setsReadyFor (l : Launch) (E : jE) {a1 : Int32} {M : jM} {r : Int64} (h : f_X2_setsReadyFor a1 M = some r) : jCl l yX2_setsReadyFor cX2_setsReadyFor 6 (some .long) 3 64 E RX GX (fun a _ => [.ref (a 29), .int a1]) M r M := by
  refine jCl_of (own := RX2) (by decide) rfl (fun _ _ => Nat.le_of_ble_eq_true rfl) ?_
  intro Γ hC
  show jJ Γ GX RX 0 [(0, .ref (jad Γ 29)), (1, .int a1)] [] M (jQl Γ RX GX r M)
  unfold f_X2_setsReadyFor at h
  refine j_lconst (v := 0) (pc' := 1) hC dX2_setsReadyFor_0 rfl rfl ?_
  refine j_lstore_n (pc' := 2) hC dX2_setsReadyFor_1 rfl rfl (by decide) rfl ?_
  refine j_iconst (v := 0) (pc' := 3) hC dX2_setsReadyFor_2 rfl rfl ?_
  refine j_istore (pc' := 5) hC dX2_setsReadyFor_3 rfl rfl (by decide) rfl ?_
  refine j_sub [2, 3, 1, 0] rfl ?_
  obtain ⟨v1, v2, hm3, h⟩ := jb2_s h
  refine lp_X2_setsReadyFor_L5 hC  jfu a1 (0 : Int64) (0 : Int32) M v1 v2 hm3 ?_
  refine j_lload_n 2 (pc' := 75) hC dX2_setsReadyFor_74 rfl rfl ?_
  have q8 := jinj1 h
  subst q8
  exact j_lret hC dX2_setsReadyFor_75
theorem t_X2_isNight (l : Launch) (E : jE) {a1 : Int32} {M : jM} {r : Int32} (h : f_X2_isNight a1 M = some r) : jCi l yX2_isNight cX2_isNight 2 (some .boolean) 0 0 E RX GX (fun a _ => [.ref (a 29), .int a1]) M r M := by
  refine jCi_of (own := RX2) (by decide) rfl (fun _ _ => Nat.le_of_ble_eq_true rfl) ?_
  intro Γ hC
  show jJ Γ GX RX 0 [(0, .ref (jad Γ 29)), (1, .int a1)] [] M (jQi Γ RX GX r M)
  unfold f_X2_isNight at h
  refine j_aload_n 0 (pc' := 1) hC dX2_isNight_0 rfl rfl ?_
  refine j_getr' (o2 := 34) (pc' := 4) hC dX2_isNight_1 rfl fi_X2_31 gx29 rfl ?_
  refine j_iload_n 1 (pc' := 5) hC dX2_isNight_4 rfl rfl ?_
  obtain ⟨g1, h⟩ := jg_s h
  refine j_iald (pc' := 6) hC dX2_isNight_5 rfl gx34 g1 ?_
  refine j_bipush (v := 6) (pc' := 8) hC dX2_isNight_6 rfl rfl ?_
  refine j_icmp_lt (tgt := 22) (pc' := 11) hC dX2_isNight_8 (by decide) rfl (fun c2 => ?_) (fun c2 => ?_)
  · have h := jit_t c2 h
    refine j_iconst (v := 1) (pc' := 23) hC dX2_isNight_22 rfl rfl ?_
    refine j_goto (tgt := 27) (pc' := 0) hC dX2_isNight_23 (by decide) ?_
    have q8 := jinj1 h
    subst q8
    exact j_zret hC dX2_isNight_27 (by decide)
  · have h := jit_f c2 h
    refine j_aload_n 0 (pc' := 12) hC dX2_isNight_11 rfl rfl ?_
    refine j_getr' (o2 := 34) (pc' := 15) hC dX2_isNight_12 rfl fi_X2_31 gx29 rfl ?_
    refine j_iload_n 1 (pc' := 16) hC dX2_isNight_15 rfl rfl ?_
    obtain ⟨g3, h⟩ := jg_s h
    refine j_iald (pc' := 17) hC dX2_isNight_16 rfl gx34 g3 ?_
    refine j_bipush (v := 17) (pc' := 19) hC dX2_isNight_17 rfl rfl ?_
    refine j_icmp_le (tgt := 26) (pc' := 22) hC dX2_isNight_19 (by decide) rfl (fun c4 => ?_) (fun c4 => ?_)
    · have h := jit_t c4 h
      refine j_iconst (v := 0) (pc' := 27) hC dX2_isNight_26 rfl rfl ?_
      have q8 := jinj1 h
      subst q8
      exact j_zret hC dX2_isNight_27 (by decide)
    · have h := jit_f c4 h
      refine j_iconst (v := 1) (pc' := 23) hC dX2_isNight_22 rfl rfl ?_
      refine j_goto (tgt := 27) (pc' := 0) hC dX2_isNight_23 (by decide) ?_
      have q8 := jinj1 h
      subst q8
      exact j_zret hC dX2_isNight_27 (by decide)
theorem t_X2_hasLight (l : Launch) (E : jE) {a1 : Int32} {a2 : Int32} {M : jM} {r : Int32} (h : f_X2_hasLight a1 a2 M = some r) : jCi l yX2_hasLight cX2_hasLight 3 (some .boolean) 1 21 E RX GX (fun a _ => [.ref (a 29), .int a1, .int a2]) M r M := by
  refine jCi_of (own := RX2) (by decide) rfl (fun _ _ => Nat.le_of_ble_eq_true rfl) ?_
  intro Γ hC
  show jJ Γ GX RX 0 [(0, .ref (jad Γ 29)), (1, .int a1), (2, .int a2)] [] M (jQi Γ RX GX r M)
  unfold f_X2_hasLight at h
  refine j_aload_n 0 (pc' := 1) hC dX2_hasLight_0 rfl rfl ?_
  refine j_getr' (o2 := 31) (pc' := 4) hC dX2_hasLight_1 rfl fi_X2_22 gx29 rfl ?_
  refine j_iload_n 1 (pc' := 5) hC dX2_hasLight_4 rfl rfl ?_
  obtain ⟨g1, h⟩ := jg_s h
  refine j_iald (pc' := 6) hC dX2_hasLight_5 rfl gx31 g1 ?_
  refine j_iconst (v := 2) (pc' := 7) hC dX2_hasLight_6 rfl rfl ?_
  refine j_icmp_eq (tgt := 32) (pc' := 10) hC dX2_hasLight_7 (by decide) rfl (fun c2 => ?_) (fun c2 => ?_)
  · have h := jit_t c2 h
    refine j_iconst (v := 1) (pc' := 33) hC dX2_hasLight_32 rfl rfl ?_
    refine j_goto (tgt := 37) (pc' := 0) hC dX2_hasLight_33 (by decide) ?_
    have q8 := jinj1 h
    subst q8
    exact j_zret hC dX2_hasLight_37 (by decide)
  · have h := jit_f c2 h
    refine j_aload_n 0 (pc' := 11) hC dX2_hasLight_10 rfl rfl ?_
    refine j_iload_n 2 (pc' := 12) hC dX2_hasLight_11 rfl rfl ?_
    obtain ⟨r3, hc4, h⟩ := jb1_s h
    refine j_callVi [.int a2] (pc' := 15) hC dX2_hasLight_12 rfl (t_X2_isNight _ _ hc4) gx29 vcl2 cv_X2_78 ⟨⟨Nat.le_of_ble_eq_true rfl, Nat.le_of_ble_eq_true rfl⟩, rfl, Nat.le_of_ble_eq_true rfl⟩ rfl rfl ?_
    refine j_aload_n 0 (pc' := 16) hC dX2_hasLight_15 rfl rfl ?_
    refine j_getr' (o2 := 31) (pc' := 19) hC dX2_hasLight_16 rfl fi_X2_22 gx29 rfl ?_
    refine j_iload_n 1 (pc' := 20) hC dX2_hasLight_19 rfl rfl ?_
    obtain ⟨g5, h⟩ := jg_s h
    refine j_iald (pc' := 21) hC dX2_hasLight_20 rfl gx31 g5 ?_
    obtain ⟨v7, hm9, h⟩ := jlet_s h
    have K8 : jJ Γ GX RX 29 [(0, .ref (jad Γ 29)), (1, .int a1), (2, .int a2)] [.int v7, .int r3] M (jQi Γ RX GX r M) := by
      refine j_icmp_ne (tgt := 36) (pc' := 32) hC dX2_hasLight_29 (by decide) rfl (fun c11 => ?_) (fun c11 => ?_)
      · have h := jit_f c11 h
        refine j_iconst (v := 0) (pc' := 37) hC dX2_hasLight_36 rfl rfl ?_
        have q8 := jinj1 h
        subst q8
        exact j_zret hC dX2_hasLight_37 (by decide)
      · have h := jit_t c11 h
        refine j_iconst (v := 1) (pc' := 33) hC dX2_hasLight_32 rfl rfl ?_
        refine j_goto (tgt := 37) (pc' := 0) hC dX2_hasLight_33 (by decide) ?_
        have q8 := jinj1 h
        subst q8
        exact j_zret hC dX2_hasLight_37 (by decide)
    refine j_if_eq (tgt := 28) (pc' := 24) hC dX2_hasLight_21 (by decide) rfl (fun c10 => ?_) (fun c10 => ?_)
    · have hm9 := jit_t c10 hm9
      refine j_iconst (v := 0) (pc' := 29) hC dX2_hasLight_28 rfl rfl ?_
      subst hm9
      exact j_sub [0, 1, 2] rfl K8
    · have hm9 := jit_f c10 hm9
      refine j_iconst (v := 1) (pc' := 25) hC dX2_hasLight_24 rfl rfl ?_
      refine j_goto (tgt := 29) (pc' := 0) hC dX2_hasLight_25 (by decide) ?_
      subst hm9
      exact j_sub [0, 1, 2] rfl K8
theorem t_X2_isTimeOf (l : Launch) (E : jE) {a1 : Int32} {a2 : Int32} {M : jM} {r : Int32} (h : f_X2_isTimeOf a1 a2 M = some r) : jCi l yX2_isTimeOf cX2_isTimeOf 3 (some .boolean) 0 0 E RX GX (fun a _ => [.ref (a 29), .int a1, .int a2]) M r M := by
  refine jCi_of (own := RX2) (by decide) rfl (fun _ _ => Nat.le_of_ble_eq_true rfl) ?_
  intro Γ hC
  show jJ Γ GX RX 0 [(0, .ref (jad Γ 29)), (1, .int a1), (2, .int a2)] [] M (jQi Γ RX GX r M)
  unfold f_X2_isTimeOf at h
  refine j_aload_n 0 (pc' := 1) hC dX2_isTimeOf_0 rfl rfl ?_
  refine j_getr' (o2 := 30) (pc' := 4) hC dX2_isTimeOf_1 rfl fi_X2_18 gx29 rfl ?_
  refine j_iload_n 1 (pc' := 5) hC dX2_isTimeOf_4 rfl rfl ?_
  obtain ⟨g1, h⟩ := jg_s h
  refine j_iald (pc' := 6) hC dX2_isTimeOf_5 rfl gx30 g1 ?_
  refine j_iconst (v := 2) (pc' := 7) hC dX2_isTimeOf_6 rfl rfl ?_
  refine j_icmp_ne (tgt := 31) (pc' := 10) hC dX2_isTimeOf_7 (by decide) rfl (fun c2 => ?_) (fun c2 => ?_)
  · have h := jit_f c2 h
    refine j_iconst (v := 1) (pc' := 32) hC dX2_isTimeOf_31 rfl rfl ?_
    refine j_goto (tgt := 36) (pc' := 0) hC dX2_isTimeOf_32 (by decide) ?_
    have q8 := jinj1 h
    subst q8
    exact j_zret hC dX2_isTimeOf_36 (by decide)
  · have h := jit_t c2 h
    refine j_aload_n 0 (pc' := 11) hC dX2_isTimeOf_10 rfl rfl ?_
    refine j_getr' (o2 := 34) (pc' := 14) hC dX2_isTimeOf_11 rfl fi_X2_31 gx29 rfl ?_
    refine j_iload_n 2 (pc' := 15) hC dX2_isTimeOf_14 rfl rfl ?_
    obtain ⟨g3, h⟩ := jg_s h
    refine j_iald (pc' := 16) hC dX2_isTimeOf_15 rfl gx34 g3 ?_
    refine j_bipush (v := 20) (pc' := 18) hC dX2_isTimeOf_16 rfl rfl ?_
    refine j_icmp_ge (tgt := 31) (pc' := 21) hC dX2_isTimeOf_18 (by decide) rfl (fun c4 => ?_) (fun c4 => ?_)
    · have h := jit_t c4 h
      refine j_iconst (v := 1) (pc' := 32) hC dX2_isTimeOf_31 rfl rfl ?_
      refine j_goto (tgt := 36) (pc' := 0) hC dX2_isTimeOf_32 (by decide) ?_
      have q8 := jinj1 h
      subst q8
      exact j_zret hC dX2_isTimeOf_36 (by decide)
    · have h := jit_f c4 h
      refine j_aload_n 0 (pc' := 22) hC dX2_isTimeOf_21 rfl rfl ?_
      refine j_getr' (o2 := 34) (pc' := 25) hC dX2_isTimeOf_22 rfl fi_X2_31 gx29 rfl ?_
      refine j_iload_n 2 (pc' := 26) hC dX2_isTimeOf_25 rfl rfl ?_
      obtain ⟨g5, h⟩ := jg_s h
      refine j_iald (pc' := 27) hC dX2_isTimeOf_26 rfl gx34 g5 ?_
      refine j_iconst (v := 5) (pc' := 28) hC dX2_isTimeOf_27 rfl rfl ?_
      refine j_icmp_gt (tgt := 35) (pc' := 31) hC dX2_isTimeOf_28 (by decide) rfl (fun c6 => ?_) (fun c6 => ?_)
      · have h := jit_t c6 h
        refine j_iconst (v := 0) (pc' := 36) hC dX2_isTimeOf_35 rfl rfl ?_
        have q8 := jinj1 h
        subst q8
        exact j_zret hC dX2_isTimeOf_36 (by decide)
      · have h := jit_f c6 h
        refine j_iconst (v := 1) (pc' := 32) hC dX2_isTimeOf_31 rfl rfl ?_
        refine j_goto (tgt := 36) (pc' := 0) hC dX2_isTimeOf_32 (by decide) ?_
        have q8 := jinj1 h
        subst q8
        exact j_zret hC dX2_isTimeOf_36 (by decide)
theorem lp_X2_hoursSuiting_L4_b {Γ : jG} (hC : jOK Γ cX2_hoursSuiting 4 RX2 (some .int) { frames := 2, cells := 0, slots := 0, locals := 43 }) {Q : State → Prop} (rec : Int32 → Int32 → Int32 → jM → Option (Int32 × Int32)) (ih : ∀ (x1 : Int32) (x2 : Int32) (x3 : Int32) (M : jM) (e2 : Int32) (e3 : Int32), rec x1 x2 x3 M = some (e2, e3) → jJ Γ GX RX 46 [(0, .ref (jad Γ 29)), (1, .int x1), (2, .int e2), (3, .int e3)] [] M Q → jJ Γ GX RX 4 [(0, .ref (jad Γ 29)), (1, .int x1), (2, .int x2), (3, .int x3)] [] M Q) (x1 : Int32) (x2 : Int32) (x3 : Int32) (M : jM) (e2 : Int32) (e3 : Int32) (h : f_X2_hoursSuiting_L4_b rec x1 x2 x3 M = some (e2, e3)) (hK : jJ Γ GX RX 46 [(0, .ref (jad Γ 29)), (1, .int x1), (2, .int e2), (3, .int e3)] [] M Q) : jJ Γ GX RX 4 [(0, .ref (jad Γ 29)), (1, .int x1), (2, .int x2), (3, .int x3)] [] M Q := by
  unfold f_X2_hoursSuiting_L4_b at h
  refine j_iload_n 3 (pc' := 5) hC dX2_hoursSuiting_4 rfl rfl ?_
  refine j_aload_n 0 (pc' := 6) hC dX2_hoursSuiting_5 rfl rfl ?_
  refine j_geti' (pc' := 9) hC dX2_hoursSuiting_6 rfl fi_X2_15 gx29 ?_
  refine j_icmp_ge (tgt := 46) (pc' := 12) hC dX2_hoursSuiting_9 (by decide) rfl (fun c1 => ?_) (fun c1 => ?_)
  · have h := jit_t c1 h
    obtain ⟨q0, q1⟩ := jinj2 h
    subst q0
    subst q1
    refine j_sub [0, 1, 2, 3] rfl ?_
    exact hK
  · have h := jit_f c1 h
    refine j_iload_n 2 (pc' := 13) hC dX2_hoursSuiting_12 rfl rfl ?_
    refine j_aload_n 0 (pc' := 14) hC dX2_hoursSuiting_13 rfl rfl ?_
    refine j_iload_n 1 (pc' := 15) hC dX2_hoursSuiting_14 rfl rfl ?_
    refine j_iload_n 3 (pc' := 16) hC dX2_hoursSuiting_15 rfl rfl ?_
    obtain ⟨r2, hc3, h⟩ := jb1_s h
    refine j_callVi [.int x1, .int x3] (pc' := 19) hC dX2_hoursSuiting_16 rfl (t_X2_hasLight _ _ hc3) gx29 vcl2 cv_X2_72 ⟨⟨Nat.le_of_ble_eq_true rfl, Nat.le_of_ble_eq_true rfl⟩, rfl, Nat.le_of_ble_eq_true rfl⟩ rfl rfl ?_
    obtain ⟨v8, hm10, h⟩ := jb1_s h
    have K9 : jJ Γ GX RX 38 [(0, .ref (jad Γ 29)), (1, .int x1), (2, .int x2), (3, .int x3)] [.int v8, .int x2] M Q := by
      refine j_ior (pc' := 39) hC dX2_hoursSuiting_38 rfl ?_
      obtain ⟨v15, ev15, h⟩ := jlet_s h
      refine j_istore_n (pc' := 40) hC dX2_hoursSuiting_39 rfl ev15 (by decide) rfl ?_
      obtain ⟨v16, ev16, h⟩ := jlet_s h
      refine j_iinc' 3 (c := 1) (pc' := 43) hC dX2_hoursSuiting_40 rfl rfl rfl ev16 (by decide) rfl ?_
      refine j_goto (tgt := 4) (pc' := 0) hC dX2_hoursSuiting_43 (by decide) ?_
      refine j_sub [2, 3, 1, 0] rfl ?_
      exact ih _ _ _ _ _ _ h hK
    refine j_if_eq (tgt := 37) (pc' := 22) hC dX2_hoursSuiting_19 (by decide) rfl (fun c11 => ?_) (fun c11 => ?_)
    · have hm10 := jit_t c11 hm10
      refine j_iconst (v := 0) (pc' := 38) hC dX2_hoursSuiting_37 rfl rfl ?_
      have q8 := jinj1 hm10
      subst q8
      exact j_sub [0, 1, 2, 3] rfl K9
    · have hm10 := jit_f c11 hm10
      refine j_aload_n 0 (pc' := 23) hC dX2_hoursSuiting_22 rfl rfl ?_
      refine j_iload_n 1 (pc' := 24) hC dX2_hoursSuiting_23 rfl rfl ?_
      refine j_iload_n 3 (pc' := 25) hC dX2_hoursSuiting_24 rfl rfl ?_
      obtain ⟨r12, hc13, hm10⟩ := jb1_s hm10
      refine j_callVi [.int x1, .int x3] (pc' := 28) hC dX2_hoursSuiting_25 rfl (t_X2_isTimeOf _ _ hc13) gx29 vcl2 cv_X2_75 ⟨⟨Nat.le_of_ble_eq_true rfl, Nat.le_of_ble_eq_true rfl⟩, rfl, Nat.le_of_ble_eq_true rfl⟩ rfl rfl ?_
      refine j_if_eq (tgt := 37) (pc' := 31) hC dX2_hoursSuiting_28 (by decide) rfl (fun c14 => ?_) (fun c14 => ?_)
      · have hm10 := jit_t c14 hm10
        refine j_iconst (v := 0) (pc' := 38) hC dX2_hoursSuiting_37 rfl rfl ?_
        have q8 := jinj1 hm10
        subst q8
        exact j_sub [0, 1, 2, 3] rfl K9
      · have hm10 := jit_f c14 hm10
        refine j_iconst (v := 1) (pc' := 32) hC dX2_hoursSuiting_31 rfl rfl ?_
        refine j_iload_n 3 (pc' := 33) hC dX2_hoursSuiting_32 rfl rfl ?_
        refine j_ishl (pc' := 34) hC dX2_hoursSuiting_33 rfl ?_
        refine j_goto (tgt := 38) (pc' := 0) hC dX2_hoursSuiting_34 (by decide) ?_
        have q8 := jinj1 hm10
        subst q8
        exact j_sub [0, 1, 2, 3] rfl K9
theorem lp_X2_hoursSuiting_L4 {Γ : jG} (hC : jOK Γ cX2_hoursSuiting 4 RX2 (some .int) { frames := 2, cells := 0, slots := 0, locals := 43 }) {Q : State → Prop} : ∀ (n : Nat) (x1 : Int32) (x2 : Int32) (x3 : Int32) (M : jM) (e2 : Int32) (e3 : Int32), f_X2_hoursSuiting_L4 n x1 x2 x3 M = some (e2, e3) → jJ Γ GX RX 46 [(0, .ref (jad Γ 29)), (1, .int x1), (2, .int e2), (3, .int e3)] [] M Q → jJ Γ GX RX 4 [(0, .ref (jad Γ 29)), (1, .int x1), (2, .int x2), (3, .int x3)] [] M Q := by
  intro n
  induction n with
  | zero =>
    intro x1 x2 x3 M e2 e3 h hK
    exact jno h
  | succ n ih =>
    intro x1 x2 x3 M e2 e3 h hK
    exact lp_X2_hoursSuiting_L4_b hC (f_X2_hoursSuiting_L4 n) ih x1 x2 x3 M e2 e3 h hK
theorem t_X2_hoursSuiting (l : Launch) (E : jE) {a1 : Int32} {M : jM} {r : Int32} (h : f_X2_hoursSuiting a1 M = some r) : jCi l yX2_hoursSuiting cX2_hoursSuiting 4 (some .int) 2 43 E RX GX (fun a _ => [.ref (a 29), .int a1]) M r M := by
  refine jCi_of (own := RX2) (by decide) rfl (fun _ _ => Nat.le_of_ble_eq_true rfl) ?_
  intro Γ hC
  show jJ Γ GX RX 0 [(0, .ref (jad Γ 29)), (1, .int a1)] [] M (jQi Γ RX GX r M)
  unfold f_X2_hoursSuiting at h
  refine j_iconst (v := 0) (pc' := 1) hC dX2_hoursSuiting_0 rfl rfl ?_
  refine j_istore_n (pc' := 2) hC dX2_hoursSuiting_1 rfl rfl (by decide) rfl ?_
  refine j_iconst (v := 0) (pc' := 3) hC dX2_hoursSuiting_2 rfl rfl ?_
  refine j_istore_n (pc' := 4) hC dX2_hoursSuiting_3 rfl rfl (by decide) rfl ?_
  refine j_sub [2, 3, 1, 0] rfl ?_
  obtain ⟨v1, v2, hm3, h⟩ := jb2_s h
  refine lp_X2_hoursSuiting_L4 hC  jfu a1 (0 : Int32) (0 : Int32) M v1 v2 hm3 ?_
  refine j_iload_n 2 (pc' := 47) hC dX2_hoursSuiting_46 rfl rfl ?_
  have q8 := jinj1 h
  subst q8
  exact j_iret hC dX2_hoursSuiting_47
theorem lp_X2_becomed_L6_b {Γ : jG} (hC : jOK Γ cX2_become 3 RX2 (none) { frames := 4, cells := 0, slots := 0, locals := 89 }) {Q : State → Prop} (rec : Int32 → jM → Option (Int32 × jM)) (ih : ∀ (x2 : Int32) (M : jM) (e2 : Int32) (Me : jM), rec x2 M = some (e2, Me) → jJ Γ GX RX 42 [(0, .ref (jad Γ 29)), (1, .ref (jad Γ 18)), (2, .int e2)] [] Me Q → jJ Γ GX RX 6 [(0, .ref (jad Γ 29)), (1, .ref (jad Γ 18)), (2, .int x2)] [] M Q) (x2 : Int32) (M : jM) (e2 : Int32) (Me : jM) (h : f_X2_becomed_L6_b rec x2 M = some (e2, Me)) (hK : jJ Γ GX RX 42 [(0, .ref (jad Γ 29)), (1, .ref (jad Γ 18)), (2, .int e2)] [] Me Q) : jJ Γ GX RX 6 [(0, .ref (jad Γ 29)), (1, .ref (jad Γ 18)), (2, .int x2)] [] M Q := by
  unfold f_X2_becomed_L6_b at h
  refine j_iload_n 2 (pc' := 7) hC dX2_become_6 rfl rfl ?_
  refine j_aload_n 1 (pc' := 8) hC dX2_become_7 rfl rfl ?_
  refine j_geti' (pc' := 11) hC dX2_become_8 rfl fi_X2_9 gx18 ?_
  refine j_icmp_ge (tgt := 42) (pc' := 14) hC dX2_become_11 (by decide) rfl (fun c1 => ?_) (fun c1 => ?_)
  · have h := jit_t c1 h
    obtain ⟨q0, q1⟩ := jinj2 h
    subst q0
    subst q1
    refine j_sub [0, 1, 2] rfl ?_
    exact hK
  · have h := jit_f c1 h
    refine j_aload_n 0 (pc' := 15) hC dX2_become_14 rfl rfl ?_
    refine j_aload_n 1 (pc' := 16) hC dX2_become_15 rfl rfl ?_
    refine j_getr' (o2 := 19) (pc' := 19) hC dX2_become_16 rfl fi_X2_18 gx18 rfl ?_
    refine j_iload_n 2 (pc' := 20) hC dX2_become_19 rfl rfl ?_
    obtain ⟨g2, h⟩ := jg_s h
    refine j_iald (pc' := 21) hC dX2_become_20 rfl gx19 g2 ?_
    refine j_aload_n 1 (pc' := 22) hC dX2_become_21 rfl rfl ?_
    refine j_getr' (o2 := 20) (pc' := 25) hC dX2_become_22 rfl fi_X2_22 gx18 rfl ?_
    refine j_iload_n 2 (pc' := 26) hC dX2_become_25 rfl rfl ?_
    obtain ⟨g3, h⟩ := jg_s h
    refine j_iald (pc' := 27) hC dX2_become_26 rfl gx20 g3 ?_
    refine j_aload_n 1 (pc' := 28) hC dX2_become_27 rfl rfl ?_
    refine j_getr' (o2 := 21) (pc' := 31) hC dX2_become_28 rfl fi_X2_25 gx18 rfl ?_
    refine j_iload_n 2 (pc' := 32) hC dX2_become_31 rfl rfl ?_
    obtain ⟨g4, h⟩ := jg_s h
    refine j_iald (pc' := 33) hC dX2_become_32 rfl gx21 g4 ?_
    obtain ⟨M5, hc6, h⟩ := jb1_s h
    refine j_callVv [.int (gi M 19 x2.toNatClampNeg), .int (gi M 20 x2.toNatClampNeg), .int (gi M 21 x2.toNatClampNeg)] (pc' := 36) hC dX2_become_33 rfl (t_X2_addDeed _ _ hc6) gx29 vcl2 cv_X2_50 ⟨⟨Nat.le_of_ble_eq_true rfl, Nat.le_of_ble_eq_true rfl⟩, rfl, Nat.le_of_ble_eq_true rfl⟩ rfl rfl ?_
    obtain ⟨v7, ev7, h⟩ := jlet_s h
    refine j_iinc' 2 (c := 1) (pc' := 39) hC dX2_become_36 rfl rfl rfl ev7 (by decide) rfl ?_
    refine j_goto (tgt := 6) (pc' := 0) hC dX2_become_39 (by decide) ?_
    refine j_sub [1, 2, 0] rfl ?_
    exact ih _ _ _ _ h hK
theorem lp_X2_becomed_L6 {Γ : jG} (hC : jOK Γ cX2_become 3 RX2 (none) { frames := 4, cells := 0, slots := 0, locals := 89 }) {Q : State → Prop} : ∀ (n : Nat) (x2 : Int32) (M : jM) (e2 : Int32) (Me : jM), f_X2_becomed_L6 n x2 M = some (e2, Me) → jJ Γ GX RX 42 [(0, .ref (jad Γ 29)), (1, .ref (jad Γ 18)), (2, .int e2)] [] Me Q → jJ Γ GX RX 6 [(0, .ref (jad Γ 29)), (1, .ref (jad Γ 18)), (2, .int x2)] [] M Q := by
  intro n
  induction n with
  | zero =>
    intro x2 M e2 Me h hK
    exact jno h
  | succ n ih =>
    intro x2 M e2 Me h hK
    exact lp_X2_becomed_L6_b hC (f_X2_becomed_L6 n) ih x2 M e2 Me h hK
theorem lp_X2_becomed_L44_b {Γ : jG} (hC : jOK Γ cX2_become 3 RX2 (none) { frames := 4, cells := 0, slots := 0, locals := 89 }) {Q : State → Prop} (rec : Int32 → jM → Option (Int32 × jM)) (ih : ∀ (x2 : Int32) (M : jM) (e2 : Int32) (Me : jM), rec x2 M = some (e2, Me) → jJ Γ GX RX 80 [(0, .ref (jad Γ 29)), (1, .ref (jad Γ 18)), (2, .int e2)] [] Me Q → jJ Γ GX RX 44 [(0, .ref (jad Γ 29)), (1, .ref (jad Γ 18)), (2, .int x2)] [] M Q) (x2 : Int32) (M : jM) (e2 : Int32) (Me : jM) (h : f_X2_becomed_L44_b rec x2 M = some (e2, Me)) (hK : jJ Γ GX RX 80 [(0, .ref (jad Γ 29)), (1, .ref (jad Γ 18)), (2, .int e2)] [] Me Q) : jJ Γ GX RX 44 [(0, .ref (jad Γ 29)), (1, .ref (jad Γ 18)), (2, .int x2)] [] M Q := by
  unfold f_X2_becomed_L44_b at h
  refine j_iload_n 2 (pc' := 45) hC dX2_become_44 rfl rfl ?_
  refine j_aload_n 1 (pc' := 46) hC dX2_become_45 rfl rfl ?_
  refine j_geti' (pc' := 49) hC dX2_become_46 rfl fi_X2_15 gx18 ?_
  refine j_icmp_ge (tgt := 80) (pc' := 52) hC dX2_become_49 (by decide) rfl (fun c1 => ?_) (fun c1 => ?_)
  · have h := jit_t c1 h
    obtain ⟨q0, q1⟩ := jinj2 h
    subst q0
    subst q1
    refine j_sub [0, 1, 2] rfl ?_
    exact hK
  · have h := jit_f c1 h
    refine j_aload_n 0 (pc' := 53) hC dX2_become_52 rfl rfl ?_
    refine j_aload_n 1 (pc' := 54) hC dX2_become_53 rfl rfl ?_
    refine j_getr' (o2 := 23) (pc' := 57) hC dX2_become_54 rfl fi_X2_31 gx18 rfl ?_
    refine j_iload_n 2 (pc' := 58) hC dX2_become_57 rfl rfl ?_
    obtain ⟨g2, h⟩ := jg_s h
    refine j_iald (pc' := 59) hC dX2_become_58 rfl gx23 g2 ?_
    refine j_aload_n 1 (pc' := 60) hC dX2_become_59 rfl rfl ?_
    refine j_getr' (o2 := 24) (pc' := 63) hC dX2_become_60 rfl fi_X2_34 gx18 rfl ?_
    refine j_iload_n 2 (pc' := 64) hC dX2_become_63 rfl rfl ?_
    obtain ⟨g3, h⟩ := jg_s h
    refine j_iald (pc' := 65) hC dX2_become_64 rfl gx24 g3 ?_
    refine j_aload_n 1 (pc' := 66) hC dX2_become_65 rfl rfl ?_
    refine j_getr' (o2 := 25) (pc' := 69) hC dX2_become_66 rfl fi_X2_37 gx18 rfl ?_
    refine j_iload_n 2 (pc' := 70) hC dX2_become_69 rfl rfl ?_
    obtain ⟨g4, h⟩ := jg_s h
    refine j_iald (pc' := 71) hC dX2_become_70 rfl gx25 g4 ?_
    obtain ⟨M5, hc6, h⟩ := jb1_s h
    refine j_callVv [.int (gi M 23 x2.toNatClampNeg), .int (gi M 24 x2.toNatClampNeg), .int (gi M 25 x2.toNatClampNeg)] (pc' := 74) hC dX2_become_71 rfl (t_X2_addHour _ _ hc6) gx29 vcl2 cv_X2_54 ⟨⟨Nat.le_of_ble_eq_true rfl, Nat.le_of_ble_eq_true rfl⟩, rfl, Nat.le_of_ble_eq_true rfl⟩ rfl rfl ?_
    obtain ⟨v7, ev7, h⟩ := jlet_s h
    refine j_iinc' 2 (c := 1) (pc' := 77) hC dX2_become_74 rfl rfl rfl ev7 (by decide) rfl ?_
    refine j_goto (tgt := 44) (pc' := 0) hC dX2_become_77 (by decide) ?_
    refine j_sub [1, 2, 0] rfl ?_
    exact ih _ _ _ _ h hK
theorem lp_X2_becomed_L44 {Γ : jG} (hC : jOK Γ cX2_become 3 RX2 (none) { frames := 4, cells := 0, slots := 0, locals := 89 }) {Q : State → Prop} : ∀ (n : Nat) (x2 : Int32) (M : jM) (e2 : Int32) (Me : jM), f_X2_becomed_L44 n x2 M = some (e2, Me) → jJ Γ GX RX 80 [(0, .ref (jad Γ 29)), (1, .ref (jad Γ 18)), (2, .int e2)] [] Me Q → jJ Γ GX RX 44 [(0, .ref (jad Γ 29)), (1, .ref (jad Γ 18)), (2, .int x2)] [] M Q := by
  intro n
  induction n with
  | zero =>
    intro x2 M e2 Me h hK
    exact jno h
  | succ n ih =>
    intro x2 M e2 Me h hK
    exact lp_X2_becomed_L44_b hC (f_X2_becomed_L44 n) ih x2 M e2 Me h hK
theorem lp_X2_becomed_L82_b {Γ : jG} (hC : jOK Γ cX2_become 3 RX2 (none) { frames := 4, cells := 0, slots := 0, locals := 89 }) {Q : State → Prop} (rec : Int32 → jM → Option (Int32 × jM)) (ih : ∀ (x2 : Int32) (M : jM) (e2 : Int32) (Me : jM), rec x2 M = some (e2, Me) → jJ Γ GX RX 118 [(0, .ref (jad Γ 29)), (1, .ref (jad Γ 18)), (2, .int e2)] [] Me Q → jJ Γ GX RX 82 [(0, .ref (jad Γ 29)), (1, .ref (jad Γ 18)), (2, .int x2)] [] M Q) (x2 : Int32) (M : jM) (e2 : Int32) (Me : jM) (h : f_X2_becomed_L82_b rec x2 M = some (e2, Me)) (hK : jJ Γ GX RX 118 [(0, .ref (jad Γ 29)), (1, .ref (jad Γ 18)), (2, .int e2)] [] Me Q) : jJ Γ GX RX 82 [(0, .ref (jad Γ 29)), (1, .ref (jad Γ 18)), (2, .int x2)] [] M Q := by
  unfold f_X2_becomed_L82_b at h
  refine j_iload_n 2 (pc' := 83) hC dX2_become_82 rfl rfl ?_
  refine j_aload_n 0 (pc' := 84) hC dX2_become_83 rfl rfl ?_
  refine j_geti' (pc' := 87) hC dX2_become_84 rfl fi_X2_9 gx29 ?_
  refine j_icmp_ge (tgt := 118) (pc' := 90) hC dX2_become_87 (by decide) rfl (fun c1 => ?_) (fun c1 => ?_)
  · have h := jit_t c1 h
    obtain ⟨q0, q1⟩ := jinj2 h
    subst q0
    subst q1
    refine j_sub [0, 1, 2] rfl ?_
    exact hK
  · have h := jit_f c1 h
    refine j_aload_n 0 (pc' := 91) hC dX2_become_90 rfl rfl ?_
    refine j_getr' (o2 := 37) (pc' := 94) hC dX2_become_91 rfl fi_X2_40 gx29 rfl ?_
    refine j_iload_n 2 (pc' := 95) hC dX2_become_94 rfl rfl ?_
    refine j_aload_n 0 (pc' := 96) hC dX2_become_95 rfl rfl ?_
    refine j_iload_n 2 (pc' := 97) hC dX2_become_96 rfl rfl ?_
    obtain ⟨r2, hc3, h⟩ := jb1_s h
    refine j_callVl [.int x2] (pc' := 100) hC dX2_become_97 rfl (t_X2_setsReadyFor _ _ hc3) gx29 vcl2 cv_X2_57 ⟨⟨Nat.le_of_ble_eq_true rfl, Nat.le_of_ble_eq_true rfl⟩, rfl, Nat.le_of_ble_eq_true rfl⟩ rfl rfl ?_
    obtain ⟨g4, h⟩ := jg_s h
    obtain ⟨M5, eM5, h⟩ := jlet_s h
    refine j_last' (pc' := 101) hC dX2_become_100 rfl gx37 g4 eM5 ?_
    refine j_aload_n 0 (pc' := 102) hC dX2_become_101 rfl rfl ?_
    refine j_getr' (o2 := 38) (pc' := 105) hC dX2_become_102 rfl fi_X2_44 gx29 rfl ?_
    refine j_iload_n 2 (pc' := 106) hC dX2_become_105 rfl rfl ?_
    refine j_aload_n 0 (pc' := 107) hC dX2_become_106 rfl rfl ?_
    refine j_iload_n 2 (pc' := 108) hC dX2_become_107 rfl rfl ?_
    obtain ⟨r6, hc7, h⟩ := jb1_s h
    refine j_callVi [.int x2] (pc' := 111) hC dX2_become_108 rfl (t_X2_hoursSuiting _ _ hc7) gx29 vcl2 cv_X2_61 ⟨⟨Nat.le_of_ble_eq_true rfl, Nat.le_of_ble_eq_true rfl⟩, rfl, Nat.le_of_ble_eq_true rfl⟩ rfl rfl ?_
    obtain ⟨g8, h⟩ := jg_s h
    obtain ⟨M9, eM9, h⟩ := jlet_s h
    refine j_iast' (pc' := 112) hC dX2_become_111 rfl gx38 g8 eM9 ?_
    obtain ⟨v10, ev10, h⟩ := jlet_s h
    refine j_iinc' 2 (c := 1) (pc' := 115) hC dX2_become_112 rfl rfl rfl ev10 (by decide) rfl ?_
    refine j_goto (tgt := 82) (pc' := 0) hC dX2_become_115 (by decide) ?_
    refine j_sub [1, 2, 0] rfl ?_
    exact ih _ _ _ _ h hK
theorem lp_X2_becomed_L82 {Γ : jG} (hC : jOK Γ cX2_become 3 RX2 (none) { frames := 4, cells := 0, slots := 0, locals := 89 }) {Q : State → Prop} : ∀ (n : Nat) (x2 : Int32) (M : jM) (e2 : Int32) (Me : jM), f_X2_becomed_L82 n x2 M = some (e2, Me) → jJ Γ GX RX 118 [(0, .ref (jad Γ 29)), (1, .ref (jad Γ 18)), (2, .int e2)] [] Me Q → jJ Γ GX RX 82 [(0, .ref (jad Γ 29)), (1, .ref (jad Γ 18)), (2, .int x2)] [] M Q := by
  intro n
  induction n with
  | zero =>
    intro x2 M e2 Me h hK
    exact jno h
  | succ n ih =>
    intro x2 M e2 Me h hK
    exact lp_X2_becomed_L82_b hC (f_X2_becomed_L82 n) ih x2 M e2 Me h hK
theorem t_X2_becomed (l : Launch) (E : jE) {M : jM} {M' : jM} (h : f_X2_becomed M = some M') : jCv l yX2_become cX2_become 3 (none) 4 89 E RX GX (fun a _ => [.ref (a 29), .ref (a 18)]) M M' := by
  refine jCv_of (own := RX2) (by decide) rfl (fun _ _ => Nat.le_of_ble_eq_true rfl) ?_
  intro Γ hC
  show jJ Γ GX RX 0 [(0, .ref (jad Γ 29)), (1, .ref (jad Γ 18))] [] M (jQv Γ RX GX M')
  unfold f_X2_becomed at h
  refine j_aload_n 0 (pc' := 1) hC dX2_become_0 rfl rfl ?_
  obtain ⟨M1, hc2, h⟩ := jb1_s h
  refine j_callVv [] (pc' := 4) hC dX2_become_1 rfl (t_X2_clear _ _ hc2) gx29 vcl2 cv_X2_47 ⟨⟨Nat.le_of_ble_eq_true rfl, Nat.le_of_ble_eq_true rfl⟩, rfl, Nat.le_of_ble_eq_true rfl⟩ rfl rfl ?_
  refine j_iconst (v := 0) (pc' := 5) hC dX2_become_4 rfl rfl ?_
  refine j_istore_n (pc' := 6) hC dX2_become_5 rfl rfl (by decide) rfl ?_
  refine j_sub [1, 2, 0] rfl ?_
  obtain ⟨v3, M4, hm5, h⟩ := jb2_s h
  refine lp_X2_becomed_L6 hC  jfu (0 : Int32) M1 v3 M4 hm5 ?_
  refine j_iconst (v := 0) (pc' := 43) hC dX2_become_42 rfl rfl ?_
  refine j_istore_n (pc' := 44) hC dX2_become_43 rfl rfl (by decide) rfl ?_
  refine j_sub [1, 2, 0] rfl ?_
  obtain ⟨v6, M7, hm8, h⟩ := jb2_s h
  refine lp_X2_becomed_L44 hC  jfu (0 : Int32) M4 v6 M7 hm8 ?_
  refine j_iconst (v := 0) (pc' := 81) hC dX2_become_80 rfl rfl ?_
  refine j_istore_n (pc' := 82) hC dX2_become_81 rfl rfl (by decide) rfl ?_
  refine j_sub [1, 2, 0] rfl ?_
  obtain ⟨v9, M10, hm11, h⟩ := jb2_s h
  refine lp_X2_becomed_L82 hC  jfu (0 : Int32) M7 v9 M10 hm11 ?_
  have q8 := jinj1 h
  subst q8
  exact j_vret hC dX2_become_118
theorem t_X0_rewind (l : Launch) (E : jE) {M : jM} {M' : jM} (h : f_X0_rewind M = some M') : jCv l yX0_rewind cX0_rewind 1 (none) 1 23 E RX GX (fun a _ => [.ref (a 39)]) M M' := by
  refine jCv_of (own := RX0) (by decide) rfl (fun _ _ => Nat.le_of_ble_eq_true rfl) ?_
  intro Γ hC
  show jJ Γ GX RX 0 [(0, .ref (jad Γ 39))] [] M (jQv Γ RX GX M')
  unfold f_X0_rewind at h
  refine j_aload_n 0 (pc' := 1) hC dX0_rewind_0 rfl rfl ?_
  refine j_getr' (o2 := 44) (pc' := 4) hC dX0_rewind_1 rfl fi_X0_24 gx39 rfl ?_
  refine j_bipush (v := -9) (pc' := 6) hC dX0_rewind_4 rfl rfl ?_
  obtain ⟨M1, hc2, h⟩ := jb1_s h
  refine j_callSv [.ref (jad Γ 44), .int (-9 : Int32)] (pc' := 9) hC dX0_rewind_6 rfl (t_J7_fill_53178 _ _ gx44 hc2) cs_X0_59 ⟨⟨Nat.le_of_ble_eq_true rfl, Nat.le_of_ble_eq_true rfl⟩, rfl, Nat.le_of_ble_eq_true rfl⟩ rfl rfl ?_
  refine j_aload_n 0 (pc' := 10) hC dX0_rewind_9 rfl rfl ?_
  refine j_iconst (v := 0) (pc' := 11) hC dX0_rewind_10 rfl rfl ?_
  obtain ⟨M3, eM3, h⟩ := jlet_s h
  refine j_puti' (pc' := 14) hC dX0_rewind_11 rfl fp_X0_27 gx39 eM3 ?_
  refine j_aload_n 0 (pc' := 15) hC dX0_rewind_14 rfl rfl ?_
  refine j_iconst (v := 0) (pc' := 16) hC dX0_rewind_15 rfl rfl ?_
  obtain ⟨M4, eM4, h⟩ := jlet_s h
  refine j_puti' (pc' := 19) hC dX0_rewind_16 rfl fp_X0_31 gx39 eM4 ?_
  refine j_aload_n 0 (pc' := 20) hC dX0_rewind_19 rfl rfl ?_
  refine j_iconst (v := 0) (pc' := 21) hC dX0_rewind_20 rfl rfl ?_
  obtain ⟨M5, eM5, h⟩ := jlet_s h
  refine j_puti' (pc' := 24) hC dX0_rewind_21 rfl fp_X0_34 gx39 eM5 ?_
  refine j_aload_n 0 (pc' := 25) hC dX0_rewind_24 rfl rfl ?_
  refine j_iconst (v := 0) (pc' := 26) hC dX0_rewind_25 rfl rfl ?_
  obtain ⟨M6, eM6, h⟩ := jlet_s h
  refine j_puti' (pc' := 29) hC dX0_rewind_26 rfl fp_X0_37 gx39 eM6 ?_
  refine j_aload_n 0 (pc' := 30) hC dX0_rewind_29 rfl rfl ?_
  refine j_iconst (v := 0) (pc' := 31) hC dX0_rewind_30 rfl rfl ?_
  obtain ⟨M7, eM7, h⟩ := jlet_s h
  refine j_puti' (pc' := 34) hC dX0_rewind_31 rfl fp_X0_40 gx39 eM7 ?_
  refine j_aload_n 0 (pc' := 35) hC dX0_rewind_34 rfl rfl ?_
  refine j_iconst (v := 0) (pc' := 36) hC dX0_rewind_35 rfl rfl ?_
  obtain ⟨M8, eM8, h⟩ := jlet_s h
  refine j_puti' (pc' := 39) hC dX0_rewind_36 rfl fp_X0_43 gx39 eM8 ?_
  have q8 := jinj1 h
  subst q8
  exact j_vret hC dX0_rewind_39
theorem t_X0_begin (l : Launch) (E : jE) {M : jM} {M' : jM} (h : f_X0_begin M = some M') : jCv l yX0_begin cX0_begin 1 (none) 2 43 E RX GX (fun a _ => [.ref (a 39)]) M M' := by
  refine jCv_of (own := RX0) (by decide) rfl (fun _ _ => Nat.le_of_ble_eq_true rfl) ?_
  intro Γ hC
  show jJ Γ GX RX 0 [(0, .ref (jad Γ 39))] [] M (jQv Γ RX GX M')
  unfold f_X0_begin at h
  refine j_gets 0 (pc' := 3) hC dX0_begin_0 rfl (by decide) (by decide +kernel) ?_
  refine j_iconst (v := 0) (pc' := 4) hC dX0_begin_3 rfl rfl ?_
  refine j_aload_n 0 (pc' := 5) hC dX0_begin_4 rfl rfl ?_
  refine j_getr' (o2 := 40) (pc' := 8) hC dX0_begin_5 rfl fi_X0_9 gx39 rfl ?_
  refine j_iconst (v := 0) (pc' := 9) hC dX0_begin_8 rfl rfl ?_
  refine j_iconst (v := 3) (pc' := 10) hC dX0_begin_9 rfl rfl ?_
  obtain ⟨M1, eM1, h⟩ := jlet_s h
  refine j_scopy 0 (pc' := 13) hC dX0_begin_10 rfl ca_X0_53 gx40 (by decide) ⟨by decide, rfl, by decide, by decide⟩ ⟨Nat.le_of_ble_eq_true rfl, Nat.le_of_ble_eq_true rfl⟩ eM1 ?_
  refine j_aload_n 0 (pc' := 14) hC dX0_begin_13 rfl rfl ?_
  obtain ⟨M2, hc3, h⟩ := jb1_s h
  refine j_callVv [] (pc' := 17) hC dX0_begin_14 rfl (t_X0_rewind _ _ hc3) gx39 vcl0 cv_X0_65 ⟨⟨Nat.le_of_ble_eq_true rfl, Nat.le_of_ble_eq_true rfl⟩, rfl, Nat.le_of_ble_eq_true rfl⟩ rfl rfl ?_
  have q8 := jinj1 h
  subst q8
  exact j_vret hC dX0_begin_17
theorem lp_X5_house_L72_b {Γ : jG} (hC : jOK Γ cX5_house 4 RX5 (some .int) { frames := 5, cells := 0, slots := 0, locals := 115 }) {Q : State → Prop} (x1 : Int32) (x2 : Int32) (rec : Int32 → jM → Option (Int32 × jM)) (ih : ∀ (x3 : Int32) (M : jM) (e3 : Int32) (Me : jM), rec x3 M = some (e3, Me) → jJ Γ GX RX 90 [(0, .ref (jad Γ 0)), (1, .int x1), (2, .int x2), (3, .int e3)] [] Me Q → jJ Γ GX RX 72 [(0, .ref (jad Γ 0)), (1, .int x1), (2, .int x2), (3, .int x3)] [] M Q) (x3 : Int32) (M : jM) (e3 : Int32) (Me : jM) (h : f_X5_house_L72_b rec x3 M = some (e3, Me)) (hK : jJ Γ GX RX 90 [(0, .ref (jad Γ 0)), (1, .int x1), (2, .int x2), (3, .int e3)] [] Me Q) : jJ Γ GX RX 72 [(0, .ref (jad Γ 0)), (1, .int x1), (2, .int x2), (3, .int x3)] [] M Q := by
  unfold f_X5_house_L72_b at h
  refine j_iload_n 3 (pc' := 73) hC dX5_house_72 rfl rfl ?_
  refine j_iconst (v := 3) (pc' := 74) hC dX5_house_73 rfl rfl ?_
  refine j_icmp_ge (tgt := 90) (pc' := 77) hC dX5_house_74 (by decide) rfl (fun c1 => ?_) (fun c1 => ?_)
  · have h := jit_t c1 h
    obtain ⟨q0, q1⟩ := jinj2 h
    subst q0
    subst q1
    refine j_sub [0, 1, 2, 3] rfl ?_
    exact hK
  · have h := jit_f c1 h
    refine j_aload_n 0 (pc' := 78) hC dX5_house_77 rfl rfl ?_
    refine j_getr' (o2 := 64) (pc' := 81) hC dX5_house_78 rfl fi_X5_48 gx0 rfl ?_
    refine j_iload_n 3 (pc' := 82) hC dX5_house_81 rfl rfl ?_
    refine j_iconst (v := 0) (pc' := 83) hC dX5_house_82 rfl rfl ?_
    obtain ⟨g2, h⟩ := jg_s h
    obtain ⟨M3, eM3, h⟩ := jlet_s h
    refine j_zast' (pc' := 84) hC dX5_house_83 rfl gx64 g2 eM3 ?_
    obtain ⟨v4, ev4, h⟩ := jlet_s h
    refine j_iinc' 3 (c := 1) (pc' := 87) hC dX5_house_84 rfl rfl rfl ev4 (by decide) rfl ?_
    refine j_goto (tgt := 72) (pc' := 0) hC dX5_house_87 (by decide) ?_
    refine j_sub [1, 2, 3, 0] rfl ?_
    exact ih _ _ _ _ h hK
theorem lp_X5_house_L72 {Γ : jG} (hC : jOK Γ cX5_house 4 RX5 (some .int) { frames := 5, cells := 0, slots := 0, locals := 115 }) {Q : State → Prop} (x1 : Int32) (x2 : Int32) : ∀ (n : Nat) (x3 : Int32) (M : jM) (e3 : Int32) (Me : jM), f_X5_house_L72 n x3 M = some (e3, Me) → jJ Γ GX RX 90 [(0, .ref (jad Γ 0)), (1, .int x1), (2, .int x2), (3, .int e3)] [] Me Q → jJ Γ GX RX 72 [(0, .ref (jad Γ 0)), (1, .int x1), (2, .int x2), (3, .int x3)] [] M Q := by
  intro n
  induction n with
  | zero =>
    intro x3 M e3 Me h hK
    exact jno h
  | succ n ih =>
    intro x3 M e3 Me h hK
    exact lp_X5_house_L72_b hC x1 x2 (f_X5_house_L72 n) ih x3 M e3 Me h hK
theorem t_X5_house (l : Launch) (E : jE) {a1 : Int32} {M : jM} {r : Int32} {M' : jM} (h : f_X5_house a1 M = some (r, M')) : jCi l yX5_house cX5_house 4 (some .int) 5 115 E RX GX (fun a _ => [.ref (a 0), .int a1]) M r M' := by
  refine jCi_of (own := RX5) (by decide) rfl (fun _ _ => Nat.le_of_ble_eq_true rfl) ?_
  intro Γ hC
  show jJ Γ GX RX 0 [(0, .ref (jad Γ 0)), (1, .int a1)] [] M (jQi Γ RX GX r M')
  unfold f_X5_house at h
  refine j_aload_n 0 (pc' := 1) hC dX5_house_0 rfl rfl ?_
  refine j_aload_n 0 (pc' := 2) hC dX5_house_1 rfl rfl ?_
  refine j_getr' (o2 := 10) (pc' := 5) hC dX5_house_2 rfl fi_X5_18 gx0 rfl ?_
  refine j_iload_n 1 (pc' := 6) hC dX5_house_5 rfl rfl ?_
  obtain ⟨r1, M2, hc3, h⟩ := jb2_s h
  refine j_callVi [.ref (jad Γ 10), .int a1] (pc' := 9) hC dX5_house_6 rfl (t_X5_refusalOfb _ _ hc3) gx0 vcl5 cv_X5_104 ⟨⟨Nat.le_of_ble_eq_true rfl, Nat.le_of_ble_eq_true rfl⟩, rfl, Nat.le_of_ble_eq_true rfl⟩ rfl rfl ?_
  refine j_istore_n (pc' := 10) hC dX5_house_9 rfl rfl (by decide) rfl ?_
  refine j_iload_n 0 (pc' := 11) hC dX5_house_10 rfl rfl ?_
  refine j_if_eq (tgt := 16) (pc' := 14) hC dX5_house_11 (by decide) rfl (fun c4 => ?_) (fun c4 => ?_)
  · have h := jit_t c4 h
    refine j_aload_n 1 (pc' := 17) hC dX5_house_16 rfl rfl ?_
    refine j_getr' (o2 := 17) (pc' := 20) hC dX5_house_17 rfl fi_X5_24 gx0 rfl ?_
    refine j_aload_n 1 (pc' := 21) hC dX5_house_20 rfl rfl ?_
    refine j_getr' (o2 := 10) (pc' := 24) hC dX5_house_21 rfl fi_X5_18 gx0 rfl ?_
    refine j_getr' (o2 := 12) (pc' := 27) hC dX5_house_24 rfl fi_X5_100 gx10 rfl ?_
    refine j_iload_n 2 (pc' := 28) hC dX5_house_27 rfl rfl ?_
    obtain ⟨g5, h⟩ := jg_s h
    refine j_aald4 (o2 := (13 + a1.toNatClampNeg)) (pc' := 29) hC dX5_house_28 rfl gx12 g5 (rxc12 g5) ?_
    refine j_aload_n 1 (pc' := 30) hC dX5_house_29 rfl rfl ?_
    refine j_getr' (o2 := 10) (pc' := 33) hC dX5_house_30 rfl fi_X5_18 gx0 rfl ?_
    refine j_getr' (o2 := 11) (pc' := 36) hC dX5_house_33 rfl fi_X5_108 gx10 rfl ?_
    refine j_iload_n 2 (pc' := 37) hC dX5_house_36 rfl rfl ?_
    obtain ⟨g6, h⟩ := jg_s h
    refine j_iald (pc' := 38) hC dX5_house_37 rfl gx11 g6 ?_
    obtain ⟨r7, M8, hc9, h⟩ := jb2_s h
    refine j_callVi [.ref (jad Γ (13 + a1.toNatClampNeg)), .int (gi M2 11 a1.toNatClampNeg)] (pc' := 41) hC dX5_house_38 rfl (t_X3_firstFault _ _ (gxc12 g5) hc9) gx17 vcl3 cv_X5_128 ⟨⟨Nat.le_of_ble_eq_true rfl, Nat.le_of_ble_eq_true rfl⟩, rfl, Nat.le_of_ble_eq_true rfl⟩ rfl rfl ?_
    refine j_bipush (v := -9) (pc' := 43) hC dX5_house_41 rfl rfl ?_
    refine j_icmp_eq (tgt := 49) (pc' := 46) hC dX5_house_43 (by decide) rfl (fun c10 => ?_) (fun c10 => ?_)
    · have h := jit_t c10 h
      refine j_aload_n 1 (pc' := 50) hC dX5_house_49 rfl rfl ?_
      refine j_getr' (o2 := 29) (pc' := 53) hC dX5_house_50 rfl fi_X5_31 gx0 rfl ?_
      refine j_aload_n 1 (pc' := 54) hC dX5_house_53 rfl rfl ?_
      refine j_getr' (o2 := 17) (pc' := 57) hC dX5_house_54 rfl fi_X5_24 gx0 rfl ?_
      refine j_getr' (o2 := 18) (pc' := 60) hC dX5_house_57 rfl fi_X5_132 gx17 rfl ?_
      obtain ⟨M11, hc12, h⟩ := jb1_s h
      refine j_callVv [.ref (jad Γ 18)] (pc' := 63) hC dX5_house_60 rfl (t_X2_becomed _ _ hc12) gx29 vcl2 cv_X5_135 ⟨⟨Nat.le_of_ble_eq_true rfl, Nat.le_of_ble_eq_true rfl⟩, rfl, Nat.le_of_ble_eq_true rfl⟩ rfl rfl ?_
      refine j_aload_n 1 (pc' := 64) hC dX5_house_63 rfl rfl ?_
      refine j_getr' (o2 := 39) (pc' := 67) hC dX5_house_64 rfl fi_X5_40 gx0 rfl ?_
      obtain ⟨M13, hc14, h⟩ := jb1_s h
      refine j_callVv [] (pc' := 70) hC dX5_house_67 rfl (t_X0_begin _ _ hc14) gx39 vcl0 cv_X5_138 ⟨⟨Nat.le_of_ble_eq_true rfl, Nat.le_of_ble_eq_true rfl⟩, rfl, Nat.le_of_ble_eq_true rfl⟩ rfl rfl ?_
      refine j_iconst (v := 0) (pc' := 71) hC dX5_house_70 rfl rfl ?_
      refine j_istore_n (pc' := 72) hC dX5_house_71 rfl rfl (by decide) rfl ?_
      refine j_sub [2, 3, 1, 0] rfl ?_
      obtain ⟨v15, M16, hm17, h⟩ := jb2_s h
      refine lp_X5_house_L72 hC a1 r1 jfu (0 : Int32) M13 v15 M16 hm17 ?_
      refine j_aload_n 0 (pc' := 91) hC dX5_house_90 rfl rfl ?_
      refine j_getr' (o2 := 29) (pc' := 94) hC dX5_house_91 rfl fi_X5_31 gx0 rfl ?_
      refine j_geti' (pc' := 97) hC dX5_house_94 rfl fi_X5_140 gx29 ?_
      obtain ⟨q0, q1⟩ := jinj2 h
      subst q0
      subst q1
      exact j_iret hC dX5_house_97
    · have h := jit_f c10 h
      refine j_bipush (v := -4) (pc' := 48) hC dX5_house_46 rfl rfl ?_
      obtain ⟨q0, q1⟩ := jinj2 h
      subst q0
      subst q1
      exact j_iret hC dX5_house_48
  · have h := jit_f c4 h
    refine j_iload_n 0 (pc' := 15) hC dX5_house_14 rfl rfl ?_
    obtain ⟨q0, q1⟩ := jinj2 h
    subst q0
    subst q1
    exact j_iret hC dX5_house_15
theorem t_X2_hasDeed (l : Launch) (E : jE) {a1 : Int32} {M : jM} {r : Int32} (h : f_X2_hasDeed a1 M = some r) : jCi l yX2_hasDeed cX2_hasDeed 2 (some .boolean) 0 0 E RX GX (fun a _ => [.ref (a 29), .int a1]) M r M := by
  refine jCi_of (own := RX2) (by decide) rfl (fun _ _ => Nat.le_of_ble_eq_true rfl) ?_
  intro Γ hC
  show jJ Γ GX RX 0 [(0, .ref (jad Γ 29)), (1, .int a1)] [] M (jQi Γ RX GX r M)
  unfold f_X2_hasDeed at h
  refine j_iload_n 1 (pc' := 1) hC dX2_hasDeed_0 rfl rfl ?_
  refine j_if_lt (tgt := 16) (pc' := 4) hC dX2_hasDeed_1 (by decide) rfl (fun c1 => ?_) (fun c1 => ?_)
  · have h := jit_t c1 h
    refine j_iconst (v := 0) (pc' := 17) hC dX2_hasDeed_16 rfl rfl ?_
    have q8 := jinj1 h
    subst q8
    exact j_zret hC dX2_hasDeed_17 (by decide)
  · have h := jit_f c1 h
    refine j_iload_n 1 (pc' := 5) hC dX2_hasDeed_4 rfl rfl ?_
    refine j_aload_n 0 (pc' := 6) hC dX2_hasDeed_5 rfl rfl ?_
    refine j_geti' (pc' := 9) hC dX2_hasDeed_6 rfl fi_X2_9 gx29 ?_
    refine j_icmp_ge (tgt := 16) (pc' := 12) hC dX2_hasDeed_9 (by decide) rfl (fun c2 => ?_) (fun c2 => ?_)
    · have h := jit_t c2 h
      refine j_iconst (v := 0) (pc' := 17) hC dX2_hasDeed_16 rfl rfl ?_
      have q8 := jinj1 h
      subst q8
      exact j_zret hC dX2_hasDeed_17 (by decide)
    · have h := jit_f c2 h
      refine j_iconst (v := 1) (pc' := 13) hC dX2_hasDeed_12 rfl rfl ?_
      refine j_goto (tgt := 17) (pc' := 0) hC dX2_hasDeed_13 (by decide) ?_
      have q8 := jinj1 h
      subst q8
      exact j_zret hC dX2_hasDeed_17 (by decide)
theorem t_X5_deedFact (l : Launch) (E : jE) {a1 : Int32} {a2 : Int32} {M : jM} {r : Int32} (h : f_X5_deedFact a1 a2 M = some r) : jCi l yX5_deedFact cX5_deedFact 3 (some .int) 1 21 E RX GX (fun a _ => [.ref (a 0), .int a1, .int a2]) M r M := by
  refine jCi_of (own := RX5) (by decide) rfl (fun _ _ => Nat.le_of_ble_eq_true rfl) ?_
  intro Γ hC
  show jJ Γ GX RX 0 [(0, .ref (jad Γ 0)), (1, .int a1), (2, .int a2)] [] M (jQi Γ RX GX r M)
  unfold f_X5_deedFact at h
  refine j_iload_n 2 (pc' := 1) hC dX5_deedFact_0 rfl rfl ?_
  by_cases c8 : a2 = 0
  · have h := jit_t c8 h
    refine j_tab (tgt := 32) (pc' := 0) hC dX5_deedFact_1 c8 (by decide) (by decide) rfl (by decide) ?_
    refine j_aload_n 0 (pc' := 33) hC dX5_deedFact_32 rfl rfl ?_
    refine j_getr' (o2 := 29) (pc' := 36) hC dX5_deedFact_33 rfl fi_X5_31 gx0 rfl ?_
    refine j_getr' (o2 := 30) (pc' := 39) hC dX5_deedFact_36 rfl fi_X5_322 gx29 rfl ?_
    refine j_iload_n 1 (pc' := 40) hC dX5_deedFact_39 rfl rfl ?_
    obtain ⟨g1, h⟩ := jg_s h
    refine j_iald (pc' := 41) hC dX5_deedFact_40 rfl gx30 g1 ?_
    have q8 := jinj1 h
    subst q8
    exact j_iret hC dX5_deedFact_41
  · have h := jit_f c8 h
    by_cases c9 : a2 = 1
    · have h := jit_t c9 h
      refine j_tab (tgt := 42) (pc' := 0) hC dX5_deedFact_1 c9 (by decide) (by decide) rfl (by decide) ?_
      refine j_aload_n 0 (pc' := 43) hC dX5_deedFact_42 rfl rfl ?_
      refine j_getr' (o2 := 29) (pc' := 46) hC dX5_deedFact_43 rfl fi_X5_31 gx0 rfl ?_
      refine j_getr' (o2 := 31) (pc' := 49) hC dX5_deedFact_46 rfl fi_X5_325 gx29 rfl ?_
      refine j_iload_n 1 (pc' := 50) hC dX5_deedFact_49 rfl rfl ?_
      obtain ⟨g2, h⟩ := jg_s h
      refine j_iald (pc' := 51) hC dX5_deedFact_50 rfl gx31 g2 ?_
      have q8 := jinj1 h
      subst q8
      exact j_iret hC dX5_deedFact_51
    · have h := jit_f c9 h
      by_cases c10 : a2 = 2
      · have h := jit_t c10 h
        refine j_tab (tgt := 52) (pc' := 0) hC dX5_deedFact_1 c10 (by decide) (by decide) rfl (by decide) ?_
        refine j_aload_n 0 (pc' := 53) hC dX5_deedFact_52 rfl rfl ?_
        refine j_getr' (o2 := 29) (pc' := 56) hC dX5_deedFact_53 rfl fi_X5_31 gx0 rfl ?_
        refine j_getr' (o2 := 32) (pc' := 59) hC dX5_deedFact_56 rfl fi_X5_166 gx29 rfl ?_
        refine j_iload_n 1 (pc' := 60) hC dX5_deedFact_59 rfl rfl ?_
        obtain ⟨g3, h⟩ := jg_s h
        refine j_iald (pc' := 61) hC dX5_deedFact_60 rfl gx32 g3 ?_
        have q8 := jinj1 h
        subst q8
        exact j_iret hC dX5_deedFact_61
      · have h := jit_f c10 h
        by_cases c11 : a2 = 3
        · have h := jit_t c11 h
          refine j_tab (tgt := 62) (pc' := 0) hC dX5_deedFact_1 c11 (by decide) (by decide) rfl (by decide) ?_
          refine j_aload_n 0 (pc' := 63) hC dX5_deedFact_62 rfl rfl ?_
          refine j_getr' (o2 := 39) (pc' := 66) hC dX5_deedFact_63 rfl fi_X5_40 gx0 rfl ?_
          refine j_geti' (pc' := 69) hC dX5_deedFact_66 rfl fi_X5_178 gx39 ?_
          refine j_iload_n 1 (pc' := 70) hC dX5_deedFact_69 rfl rfl ?_
          obtain ⟨r4, hc5, h⟩ := jb1_s h
          refine j_callSi [.int (gi M 39 10), .int a1] (pc' := 73) hC dX5_deedFact_70 rfl (t_X5_isIn _ _ hc5) cs_X5_270 ⟨⟨Nat.le_of_ble_eq_true rfl, Nat.le_of_ble_eq_true rfl⟩, rfl, Nat.le_of_ble_eq_true rfl⟩ rfl rfl ?_
          refine j_if_eq (tgt := 80) (pc' := 76) hC dX5_deedFact_73 (by decide) rfl (fun c6 => ?_) (fun c6 => ?_)
          · have h := jit_t c6 h
            refine j_iconst (v := 0) (pc' := 81) hC dX5_deedFact_80 rfl rfl ?_
            have q8 := jinj1 h
            subst q8
            exact j_iret hC dX5_deedFact_81
          · have h := jit_f c6 h
            refine j_iconst (v := 1) (pc' := 77) hC dX5_deedFact_76 rfl rfl ?_
            refine j_goto (tgt := 81) (pc' := 0) hC dX5_deedFact_77 (by decide) ?_
            have q8 := jinj1 h
            subst q8
            exact j_iret hC dX5_deedFact_81
        · have h := jit_f c11 h
          refine j_tabOut (tgt := 82) (pc' := 0) hC dX5_deedFact_1 (by have n0 := jneI (k := 0) rfl c8; have n1 := jneI (k := 1) rfl c9; have n2 := jneI (k := 2) rfl c10; have n3 := jneI (k := 3) rfl c11; omega) (by decide) ?_
          refine j_aload_n 0 (pc' := 83) hC dX5_deedFact_82 rfl rfl ?_
          refine j_getr' (o2 := 29) (pc' := 86) hC dX5_deedFact_83 rfl fi_X5_31 gx0 rfl ?_
          refine j_getr' (o2 := 33) (pc' := 89) hC dX5_deedFact_86 rfl fi_X5_225 gx29 rfl ?_
          refine j_iload_n 1 (pc' := 90) hC dX5_deedFact_89 rfl rfl ?_
          obtain ⟨g7, h⟩ := jg_s h
          refine j_iald (pc' := 91) hC dX5_deedFact_90 rfl gx33 g7 ?_
          have q8 := jinj1 h
          subst q8
          exact j_iret hC dX5_deedFact_91
theorem t_X5_deed (l : Launch) (E : jE) {a1 : Int32} {a2 : Int32} {M : jM} {r : Int32} {M' : jM} (h : f_X5_deed a1 a2 M = some (r, M')) : jCi l yX5_deed cX5_deed 3 (some .int) 2 43 E RX GX (fun a _ => [.ref (a 0), .int a1, .int a2]) M r M' := by
  refine jCi_of (own := RX5) (by decide) rfl (fun _ _ => Nat.le_of_ble_eq_true rfl) ?_
  intro Γ hC
  show jJ Γ GX RX 0 [(0, .ref (jad Γ 0)), (1, .int a1), (2, .int a2)] [] M (jQi Γ RX GX r M')
  unfold f_X5_deed at h
  refine j_aload_n 0 (pc' := 1) hC dX5_deed_0 rfl rfl ?_
  refine j_getr' (o2 := 29) (pc' := 4) hC dX5_deed_1 rfl fi_X5_31 gx0 rfl ?_
  refine j_iload_n 1 (pc' := 5) hC dX5_deed_4 rfl rfl ?_
  obtain ⟨r1, hc2, h⟩ := jb1_s h
  refine j_callVi [.int a1] (pc' := 8) hC dX5_deed_5 rfl (t_X2_hasDeed _ _ hc2) gx29 vcl2 cv_X5_143 ⟨⟨Nat.le_of_ble_eq_true rfl, Nat.le_of_ble_eq_true rfl⟩, rfl, Nat.le_of_ble_eq_true rfl⟩ rfl rfl ?_
  refine j_if_eq (tgt := 20) (pc' := 11) hC dX5_deed_8 (by decide) rfl (fun c3 => ?_) (fun c3 => ?_)
  · have h := jit_t c3 h
    refine j_iconst (v := -1) (pc' := 21) hC dX5_deed_20 rfl rfl ?_
    obtain ⟨q0, q1⟩ := jinj2 h
    subst q0
    subst q1
    exact j_iret hC dX5_deed_21
  · have h := jit_f c3 h
    refine j_iload_n 2 (pc' := 12) hC dX5_deed_11 rfl rfl ?_
    refine j_if_lt (tgt := 20) (pc' := 15) hC dX5_deed_12 (by decide) rfl (fun c4 => ?_) (fun c4 => ?_)
    · have h := jit_t c4 h
      refine j_iconst (v := -1) (pc' := 21) hC dX5_deed_20 rfl rfl ?_
      obtain ⟨q0, q1⟩ := jinj2 h
      subst q0
      subst q1
      exact j_iret hC dX5_deed_21
    · have h := jit_f c4 h
      refine j_iload_n 2 (pc' := 16) hC dX5_deed_15 rfl rfl ?_
      refine j_iconst (v := 5) (pc' := 17) hC dX5_deed_16 rfl rfl ?_
      refine j_icmp_lt (tgt := 22) (pc' := 20) hC dX5_deed_17 (by decide) rfl (fun c5 => ?_) (fun c5 => ?_)
      · have h := jit_t c5 h
        refine j_aload_n 0 (pc' := 23) hC dX5_deed_22 rfl rfl ?_
        refine j_aload_n 0 (pc' := 24) hC dX5_deed_23 rfl rfl ?_
        refine j_iload_n 1 (pc' := 25) hC dX5_deed_24 rfl rfl ?_
        refine j_iload_n 2 (pc' := 26) hC dX5_deed_25 rfl rfl ?_
        obtain ⟨r6, hc7, h⟩ := jb1_s h
        refine j_callVi [.int a1, .int a2] (pc' := 29) hC dX5_deed_26 rfl (t_X5_deedFact _ _ hc7) gx0 vcl5 cv_X5_146 ⟨⟨Nat.le_of_ble_eq_true rfl, Nat.le_of_ble_eq_true rfl⟩, rfl, Nat.le_of_ble_eq_true rfl⟩ rfl rfl ?_
        obtain ⟨r8, M9, hc10, h⟩ := jb2_s h
        refine j_callVi [.int r6] (pc' := 32) hC dX5_deed_29 rfl (t_X5_tell _ _ hc10) gx0 vcl5 cv_X5_97 ⟨⟨Nat.le_of_ble_eq_true rfl, Nat.le_of_ble_eq_true rfl⟩, rfl, Nat.le_of_ble_eq_true rfl⟩ rfl rfl ?_
        obtain ⟨q0, q1⟩ := jinj2 h
        subst q0
        subst q1
        exact j_iret hC dX5_deed_32
      · have h := jit_f c5 h
        refine j_iconst (v := -1) (pc' := 21) hC dX5_deed_20 rfl rfl ?_
        obtain ⟨q0, q1⟩ := jinj2 h
        subst q0
        subst q1
        exact j_iret hC dX5_deed_21
theorem t_X2_hasHour (l : Launch) (E : jE) {a1 : Int32} {M : jM} {r : Int32} (h : f_X2_hasHour a1 M = some r) : jCi l yX2_hasHour cX2_hasHour 2 (some .boolean) 0 0 E RX GX (fun a _ => [.ref (a 29), .int a1]) M r M := by
  refine jCi_of (own := RX2) (by decide) rfl (fun _ _ => Nat.le_of_ble_eq_true rfl) ?_
  intro Γ hC
  show jJ Γ GX RX 0 [(0, .ref (jad Γ 29)), (1, .int a1)] [] M (jQi Γ RX GX r M)
  unfold f_X2_hasHour at h
  refine j_iload_n 1 (pc' := 1) hC dX2_hasHour_0 rfl rfl ?_
  refine j_if_lt (tgt := 16) (pc' := 4) hC dX2_hasHour_1 (by decide) rfl (fun c1 => ?_) (fun c1 => ?_)
  · have h := jit_t c1 h
    refine j_iconst (v := 0) (pc' := 17) hC dX2_hasHour_16 rfl rfl ?_
    have q8 := jinj1 h
    subst q8
    exact j_zret hC dX2_hasHour_17 (by decide)
  · have h := jit_f c1 h
    refine j_iload_n 1 (pc' := 5) hC dX2_hasHour_4 rfl rfl ?_
    refine j_aload_n 0 (pc' := 6) hC dX2_hasHour_5 rfl rfl ?_
    refine j_geti' (pc' := 9) hC dX2_hasHour_6 rfl fi_X2_15 gx29 ?_
    refine j_icmp_ge (tgt := 16) (pc' := 12) hC dX2_hasHour_9 (by decide) rfl (fun c2 => ?_) (fun c2 => ?_)
    · have h := jit_t c2 h
      refine j_iconst (v := 0) (pc' := 17) hC dX2_hasHour_16 rfl rfl ?_
      have q8 := jinj1 h
      subst q8
      exact j_zret hC dX2_hasHour_17 (by decide)
    · have h := jit_f c2 h
      refine j_iconst (v := 1) (pc' := 13) hC dX2_hasHour_12 rfl rfl ?_
      refine j_goto (tgt := 17) (pc' := 0) hC dX2_hasHour_13 (by decide) ?_
      have q8 := jinj1 h
      subst q8
      exact j_zret hC dX2_hasHour_17 (by decide)
theorem t_X0_comingDay (l : Launch) (E : jE) {a1 : Int32} {M : jM} {r : Int32} (h : f_X0_comingDay a1 M = some r) : jCi l yX0_comingDay cX0_comingDay 2 (some .int) 0 0 E RX GX (fun a _ => [.ref (a 39), .int a1]) M r M := by
  refine jCi_of (own := RX0) (by decide) rfl (fun _ _ => Nat.le_of_ble_eq_true rfl) ?_
  intro Γ hC
  show jJ Γ GX RX 0 [(0, .ref (jad Γ 39)), (1, .int a1)] [] M (jQi Γ RX GX r M)
  unfold f_X0_comingDay at h
  refine j_aload_n 0 (pc' := 1) hC dX0_comingDay_0 rfl rfl ?_
  refine j_getr' (o2 := 29) (pc' := 4) hC dX0_comingDay_1 rfl fi_X0_46 gx39 rfl ?_
  refine j_getr' (o2 := 35) (pc' := 7) hC dX0_comingDay_4 rfl fi_X0_93 gx29 rfl ?_
  refine j_iload_n 1 (pc' := 8) hC dX0_comingDay_7 rfl rfl ?_
  obtain ⟨g1, h⟩ := jg_s h
  refine j_iald (pc' := 9) hC dX0_comingDay_8 rfl gx35 g1 ?_
  refine j_aload_n 0 (pc' := 10) hC dX0_comingDay_9 rfl rfl ?_
  refine j_getr' (o2 := 40) (pc' := 13) hC dX0_comingDay_10 rfl fi_X0_9 gx39 rfl ?_
  refine j_aload_n 0 (pc' := 14) hC dX0_comingDay_13 rfl rfl ?_
  refine j_getr' (o2 := 29) (pc' := 17) hC dX0_comingDay_14 rfl fi_X0_46 gx39 rfl ?_
  refine j_getr' (o2 := 36) (pc' := 20) hC dX0_comingDay_17 rfl fi_X0_96 gx29 rfl ?_
  refine j_iload_n 1 (pc' := 21) hC dX0_comingDay_20 rfl rfl ?_
  obtain ⟨g2, h⟩ := jg_s h
  refine j_iald (pc' := 22) hC dX0_comingDay_21 rfl gx36 g2 ?_
  obtain ⟨g3, h⟩ := jg_s h
  refine j_iald (pc' := 23) hC dX0_comingDay_22 rfl gx40 g3 ?_
  refine j_iadd (pc' := 24) hC dX0_comingDay_23 rfl ?_
  have q8 := jinj1 h
  subst q8
  exact j_iret hC dX0_comingDay_24
