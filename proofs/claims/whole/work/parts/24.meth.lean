theorem t_X5_shelf (l : Launch) (E : jE) {M : jM} {r : Int32} {M' : jM} (h : f_X5_shelf M = some (r, M')) : jCi l yX5_shelf cX5_shelf 1 (some .int) 3 64 E RX GX (fun a _ => [.ref (a 0)]) M r M' := by
  refine jCi_of (own := RX5) (by decide) rfl (fun _ _ => Nat.le_of_ble_eq_true rfl) ?_
  intro Γ hC
  show jJ Γ GX RX 0 [(0, .ref (jad Γ 0))] [] M (jQi Γ RX GX r M')
  unfold f_X5_shelf at h
  refine j_aload_n 0 (pc' := 1) hC dX5_shelf_0 rfl rfl ?_
  refine j_getr' (o2 := 29) (pc' := 4) hC dX5_shelf_1 rfl fi_X5_31 gx0 rfl ?_
  refine j_geti' (pc' := 7) hC dX5_shelf_4 rfl fi_X5_140 gx29 ?_
  refine j_if_ne (tgt := 13) (pc' := 10) hC dX5_shelf_7 (by decide) rfl (fun c1 => ?_) (fun c1 => ?_)
  · have h := jit_f c1 h
    refine j_aload_n 0 (pc' := 14) hC dX5_shelf_13 rfl rfl ?_
    refine j_aload_n 0 (pc' := 15) hC dX5_shelf_14 rfl rfl ?_
    refine j_getr' (o2 := 39) (pc' := 18) hC dX5_shelf_15 rfl fi_X5_40 gx0 rfl ?_
    refine j_geti' (pc' := 21) hC dX5_shelf_18 rfl fi_X5_200 gx39 ?_
    obtain ⟨M2, eM2, h⟩ := jlet_s h
    refine j_puti' (pc' := 24) hC dX5_shelf_21 rfl fp_X5_67 gx0 eM2 ?_
    refine j_aload_n 0 (pc' := 25) hC dX5_shelf_24 rfl rfl ?_
    refine j_getr' (o2 := 39) (pc' := 28) hC dX5_shelf_25 rfl fi_X5_40 gx0 rfl ?_
    obtain ⟨r3, hc4, h⟩ := jb1_s h
    refine j_callVi [] (pc' := 31) hC dX5_shelf_28 rfl (t_X0_shelfBits _ _ hc4) gx39 vcl0 cv_X5_209 ⟨⟨Nat.le_of_ble_eq_true rfl, Nat.le_of_ble_eq_true rfl⟩, rfl, Nat.le_of_ble_eq_true rfl⟩ rfl rfl ?_
    obtain ⟨q0, q1⟩ := jinj2 h
    subst q0
    subst q1
    exact j_iret hC dX5_shelf_31
  · have h := jit_t c1 h
    refine j_bipush (v := -4) (pc' := 12) hC dX5_shelf_10 rfl rfl ?_
    obtain ⟨q0, q1⟩ := jinj2 h
    subst q0
    subst q1
    exact j_iret hC dX5_shelf_12
theorem t_X0_becomek0c (l : Launch) (E : jE) {M : jM} {M' : jM} (h : f_X0_becomek0c M = some M') : jCv l yX0_become cX0_become 2 (none) 1 30 E RX GX (fun a _ => [.ref (a 46), .ref (a 39)]) M M' := by
  refine jCv_of (own := RX0) (by decide) rfl (fun _ _ => Nat.le_of_ble_eq_true rfl) ?_
  intro Γ hC
  show jJ Γ GX RX 0 [(0, .ref (jad Γ 46)), (1, .ref (jad Γ 39))] [] M (jQv Γ RX GX M')
  unfold f_X0_becomek0c at h
  refine j_aload_n 1 (pc' := 1) hC dX0_become_0 rfl rfl ?_
  refine j_getr' (o2 := 40) (pc' := 4) hC dX0_become_1 rfl fi_X0_9 gx39 rfl ?_
  refine j_iconst (v := 0) (pc' := 5) hC dX0_become_4 rfl rfl ?_
  refine j_aload_n 0 (pc' := 6) hC dX0_become_5 rfl rfl ?_
  refine j_getr' (o2 := 47) (pc' := 9) hC dX0_become_6 rfl fi_X0_9 gx46 rfl ?_
  refine j_iconst (v := 0) (pc' := 10) hC dX0_become_9 rfl rfl ?_
  refine j_iconst (v := 3) (pc' := 11) hC dX0_become_10 rfl rfl ?_
  obtain ⟨M1, eM1, h⟩ := jlet_s h
  refine j_acopy' (pc' := 14) hC dX0_become_11 rfl ca_X0_53 gx40 gx47 (by decide) ⟨Nat.le_of_ble_eq_true rfl, Nat.le_of_ble_eq_true rfl⟩ eM1 ?_
  refine j_aload_n 1 (pc' := 15) hC dX0_become_14 rfl rfl ?_
  refine j_getr' (o2 := 41) (pc' := 18) hC dX0_become_15 rfl fi_X0_15 gx39 rfl ?_
  refine j_iconst (v := 0) (pc' := 19) hC dX0_become_18 rfl rfl ?_
  refine j_aload_n 0 (pc' := 20) hC dX0_become_19 rfl rfl ?_
  refine j_getr' (o2 := 48) (pc' := 23) hC dX0_become_20 rfl fi_X0_15 gx46 rfl ?_
  refine j_iconst (v := 0) (pc' := 24) hC dX0_become_23 rfl rfl ?_
  refine j_bipush (v := 40) (pc' := 26) hC dX0_become_24 rfl rfl ?_
  obtain ⟨M2, eM2, h⟩ := jlet_s h
  refine j_acopy' (pc' := 29) hC dX0_become_26 rfl ca_X0_53 gx41 gx48 (by decide) ⟨Nat.le_of_ble_eq_true rfl, Nat.le_of_ble_eq_true rfl⟩ eM2 ?_
  refine j_aload_n 1 (pc' := 30) hC dX0_become_29 rfl rfl ?_
  refine j_getr' (o2 := 42) (pc' := 33) hC dX0_become_30 rfl fi_X0_18 gx39 rfl ?_
  refine j_iconst (v := 0) (pc' := 34) hC dX0_become_33 rfl rfl ?_
  refine j_aload_n 0 (pc' := 35) hC dX0_become_34 rfl rfl ?_
  refine j_getr' (o2 := 49) (pc' := 38) hC dX0_become_35 rfl fi_X0_18 gx46 rfl ?_
  refine j_iconst (v := 0) (pc' := 39) hC dX0_become_38 rfl rfl ?_
  refine j_bipush (v := 40) (pc' := 41) hC dX0_become_39 rfl rfl ?_
  obtain ⟨M3, eM3, h⟩ := jlet_s h
  refine j_acopy' (pc' := 44) hC dX0_become_41 rfl ca_X0_53 gx42 gx49 (by decide) ⟨Nat.le_of_ble_eq_true rfl, Nat.le_of_ble_eq_true rfl⟩ eM3 ?_
  refine j_aload_n 1 (pc' := 45) hC dX0_become_44 rfl rfl ?_
  refine j_getr' (o2 := 43) (pc' := 48) hC dX0_become_45 rfl fi_X0_21 gx39 rfl ?_
  refine j_iconst (v := 0) (pc' := 49) hC dX0_become_48 rfl rfl ?_
  refine j_aload_n 0 (pc' := 50) hC dX0_become_49 rfl rfl ?_
  refine j_getr' (o2 := 50) (pc' := 53) hC dX0_become_50 rfl fi_X0_21 gx46 rfl ?_
  refine j_iconst (v := 0) (pc' := 54) hC dX0_become_53 rfl rfl ?_
  refine j_bipush (v := 40) (pc' := 56) hC dX0_become_54 rfl rfl ?_
  obtain ⟨M4, eM4, h⟩ := jlet_s h
  refine j_acopy' (pc' := 59) hC dX0_become_56 rfl ca_X0_53 gx43 gx50 (by decide) ⟨Nat.le_of_ble_eq_true rfl, Nat.le_of_ble_eq_true rfl⟩ eM4 ?_
  refine j_aload_n 1 (pc' := 60) hC dX0_become_59 rfl rfl ?_
  refine j_getr' (o2 := 44) (pc' := 63) hC dX0_become_60 rfl fi_X0_24 gx39 rfl ?_
  refine j_iconst (v := 0) (pc' := 64) hC dX0_become_63 rfl rfl ?_
  refine j_aload_n 0 (pc' := 65) hC dX0_become_64 rfl rfl ?_
  refine j_getr' (o2 := 51) (pc' := 68) hC dX0_become_65 rfl fi_X0_24 gx46 rfl ?_
  refine j_iconst (v := 0) (pc' := 69) hC dX0_become_68 rfl rfl ?_
  refine j_bipush (v := 7) (pc' := 71) hC dX0_become_69 rfl rfl ?_
  obtain ⟨M5, eM5, h⟩ := jlet_s h
  refine j_acopy' (pc' := 74) hC dX0_become_71 rfl ca_X0_53 gx44 gx51 (by decide) ⟨Nat.le_of_ble_eq_true rfl, Nat.le_of_ble_eq_true rfl⟩ eM5 ?_
  refine j_aload_n 0 (pc' := 75) hC dX0_become_74 rfl rfl ?_
  refine j_aload_n 1 (pc' := 76) hC dX0_become_75 rfl rfl ?_
  refine j_geti' (pc' := 79) hC dX0_become_76 rfl fi_X0_27 gx39 ?_
  obtain ⟨M6, eM6, h⟩ := jlet_s h
  refine j_puti' (pc' := 82) hC dX0_become_79 rfl fp_X0_27 gx46 eM6 ?_
  refine j_aload_n 0 (pc' := 83) hC dX0_become_82 rfl rfl ?_
  refine j_aload_n 1 (pc' := 84) hC dX0_become_83 rfl rfl ?_
  refine j_geti' (pc' := 87) hC dX0_become_84 rfl fi_X0_31 gx39 ?_
  obtain ⟨M7, eM7, h⟩ := jlet_s h
  refine j_puti' (pc' := 90) hC dX0_become_87 rfl fp_X0_31 gx46 eM7 ?_
  refine j_aload_n 0 (pc' := 91) hC dX0_become_90 rfl rfl ?_
  refine j_aload_n 1 (pc' := 92) hC dX0_become_91 rfl rfl ?_
  refine j_geti' (pc' := 95) hC dX0_become_92 rfl fi_X0_34 gx39 ?_
  obtain ⟨M8, eM8, h⟩ := jlet_s h
  refine j_puti' (pc' := 98) hC dX0_become_95 rfl fp_X0_34 gx46 eM8 ?_
  refine j_aload_n 0 (pc' := 99) hC dX0_become_98 rfl rfl ?_
  refine j_aload_n 1 (pc' := 100) hC dX0_become_99 rfl rfl ?_
  refine j_geti' (pc' := 103) hC dX0_become_100 rfl fi_X0_37 gx39 ?_
  obtain ⟨M9, eM9, h⟩ := jlet_s h
  refine j_puti' (pc' := 106) hC dX0_become_103 rfl fp_X0_37 gx46 eM9 ?_
  refine j_aload_n 0 (pc' := 107) hC dX0_become_106 rfl rfl ?_
  refine j_aload_n 1 (pc' := 108) hC dX0_become_107 rfl rfl ?_
  refine j_geti' (pc' := 111) hC dX0_become_108 rfl fi_X0_40 gx39 ?_
  obtain ⟨M10, eM10, h⟩ := jlet_s h
  refine j_puti' (pc' := 114) hC dX0_become_111 rfl fp_X0_40 gx46 eM10 ?_
  refine j_aload_n 0 (pc' := 115) hC dX0_become_114 rfl rfl ?_
  refine j_aload_n 1 (pc' := 116) hC dX0_become_115 rfl rfl ?_
  refine j_geti' (pc' := 119) hC dX0_become_116 rfl fi_X0_43 gx39 ?_
  obtain ⟨M11, eM11, h⟩ := jlet_s h
  refine j_puti' (pc' := 122) hC dX0_become_119 rfl fp_X0_43 gx46 eM11 ?_
  have q8 := jinj1 h
  subst q8
  exact j_vret hC dX0_become_122
theorem t_X0_becomek1c (l : Launch) (E : jE) {M : jM} {M' : jM} (h : f_X0_becomek1c M = some M') : jCv l yX0_become cX0_become 2 (none) 1 30 E RX GX (fun a _ => [.ref (a 52), .ref (a 39)]) M M' := by
  refine jCv_of (own := RX0) (by decide) rfl (fun _ _ => Nat.le_of_ble_eq_true rfl) ?_
  intro Γ hC
  show jJ Γ GX RX 0 [(0, .ref (jad Γ 52)), (1, .ref (jad Γ 39))] [] M (jQv Γ RX GX M')
  unfold f_X0_becomek1c at h
  refine j_aload_n 1 (pc' := 1) hC dX0_become_0 rfl rfl ?_
  refine j_getr' (o2 := 40) (pc' := 4) hC dX0_become_1 rfl fi_X0_9 gx39 rfl ?_
  refine j_iconst (v := 0) (pc' := 5) hC dX0_become_4 rfl rfl ?_
  refine j_aload_n 0 (pc' := 6) hC dX0_become_5 rfl rfl ?_
  refine j_getr' (o2 := 53) (pc' := 9) hC dX0_become_6 rfl fi_X0_9 gx52 rfl ?_
  refine j_iconst (v := 0) (pc' := 10) hC dX0_become_9 rfl rfl ?_
  refine j_iconst (v := 3) (pc' := 11) hC dX0_become_10 rfl rfl ?_
  obtain ⟨M1, eM1, h⟩ := jlet_s h
  refine j_acopy' (pc' := 14) hC dX0_become_11 rfl ca_X0_53 gx40 gx53 (by decide) ⟨Nat.le_of_ble_eq_true rfl, Nat.le_of_ble_eq_true rfl⟩ eM1 ?_
  refine j_aload_n 1 (pc' := 15) hC dX0_become_14 rfl rfl ?_
  refine j_getr' (o2 := 41) (pc' := 18) hC dX0_become_15 rfl fi_X0_15 gx39 rfl ?_
  refine j_iconst (v := 0) (pc' := 19) hC dX0_become_18 rfl rfl ?_
  refine j_aload_n 0 (pc' := 20) hC dX0_become_19 rfl rfl ?_
  refine j_getr' (o2 := 54) (pc' := 23) hC dX0_become_20 rfl fi_X0_15 gx52 rfl ?_
  refine j_iconst (v := 0) (pc' := 24) hC dX0_become_23 rfl rfl ?_
  refine j_bipush (v := 40) (pc' := 26) hC dX0_become_24 rfl rfl ?_
  obtain ⟨M2, eM2, h⟩ := jlet_s h
  refine j_acopy' (pc' := 29) hC dX0_become_26 rfl ca_X0_53 gx41 gx54 (by decide) ⟨Nat.le_of_ble_eq_true rfl, Nat.le_of_ble_eq_true rfl⟩ eM2 ?_
  refine j_aload_n 1 (pc' := 30) hC dX0_become_29 rfl rfl ?_
  refine j_getr' (o2 := 42) (pc' := 33) hC dX0_become_30 rfl fi_X0_18 gx39 rfl ?_
  refine j_iconst (v := 0) (pc' := 34) hC dX0_become_33 rfl rfl ?_
  refine j_aload_n 0 (pc' := 35) hC dX0_become_34 rfl rfl ?_
  refine j_getr' (o2 := 55) (pc' := 38) hC dX0_become_35 rfl fi_X0_18 gx52 rfl ?_
  refine j_iconst (v := 0) (pc' := 39) hC dX0_become_38 rfl rfl ?_
  refine j_bipush (v := 40) (pc' := 41) hC dX0_become_39 rfl rfl ?_
  obtain ⟨M3, eM3, h⟩ := jlet_s h
  refine j_acopy' (pc' := 44) hC dX0_become_41 rfl ca_X0_53 gx42 gx55 (by decide) ⟨Nat.le_of_ble_eq_true rfl, Nat.le_of_ble_eq_true rfl⟩ eM3 ?_
  refine j_aload_n 1 (pc' := 45) hC dX0_become_44 rfl rfl ?_
  refine j_getr' (o2 := 43) (pc' := 48) hC dX0_become_45 rfl fi_X0_21 gx39 rfl ?_
  refine j_iconst (v := 0) (pc' := 49) hC dX0_become_48 rfl rfl ?_
  refine j_aload_n 0 (pc' := 50) hC dX0_become_49 rfl rfl ?_
  refine j_getr' (o2 := 56) (pc' := 53) hC dX0_become_50 rfl fi_X0_21 gx52 rfl ?_
  refine j_iconst (v := 0) (pc' := 54) hC dX0_become_53 rfl rfl ?_
  refine j_bipush (v := 40) (pc' := 56) hC dX0_become_54 rfl rfl ?_
  obtain ⟨M4, eM4, h⟩ := jlet_s h
  refine j_acopy' (pc' := 59) hC dX0_become_56 rfl ca_X0_53 gx43 gx56 (by decide) ⟨Nat.le_of_ble_eq_true rfl, Nat.le_of_ble_eq_true rfl⟩ eM4 ?_
  refine j_aload_n 1 (pc' := 60) hC dX0_become_59 rfl rfl ?_
  refine j_getr' (o2 := 44) (pc' := 63) hC dX0_become_60 rfl fi_X0_24 gx39 rfl ?_
  refine j_iconst (v := 0) (pc' := 64) hC dX0_become_63 rfl rfl ?_
  refine j_aload_n 0 (pc' := 65) hC dX0_become_64 rfl rfl ?_
  refine j_getr' (o2 := 57) (pc' := 68) hC dX0_become_65 rfl fi_X0_24 gx52 rfl ?_
  refine j_iconst (v := 0) (pc' := 69) hC dX0_become_68 rfl rfl ?_
  refine j_bipush (v := 7) (pc' := 71) hC dX0_become_69 rfl rfl ?_
  obtain ⟨M5, eM5, h⟩ := jlet_s h
  refine j_acopy' (pc' := 74) hC dX0_become_71 rfl ca_X0_53 gx44 gx57 (by decide) ⟨Nat.le_of_ble_eq_true rfl, Nat.le_of_ble_eq_true rfl⟩ eM5 ?_
  refine j_aload_n 0 (pc' := 75) hC dX0_become_74 rfl rfl ?_
  refine j_aload_n 1 (pc' := 76) hC dX0_become_75 rfl rfl ?_
  refine j_geti' (pc' := 79) hC dX0_become_76 rfl fi_X0_27 gx39 ?_
  obtain ⟨M6, eM6, h⟩ := jlet_s h
  refine j_puti' (pc' := 82) hC dX0_become_79 rfl fp_X0_27 gx52 eM6 ?_
  refine j_aload_n 0 (pc' := 83) hC dX0_become_82 rfl rfl ?_
  refine j_aload_n 1 (pc' := 84) hC dX0_become_83 rfl rfl ?_
  refine j_geti' (pc' := 87) hC dX0_become_84 rfl fi_X0_31 gx39 ?_
  obtain ⟨M7, eM7, h⟩ := jlet_s h
  refine j_puti' (pc' := 90) hC dX0_become_87 rfl fp_X0_31 gx52 eM7 ?_
  refine j_aload_n 0 (pc' := 91) hC dX0_become_90 rfl rfl ?_
  refine j_aload_n 1 (pc' := 92) hC dX0_become_91 rfl rfl ?_
  refine j_geti' (pc' := 95) hC dX0_become_92 rfl fi_X0_34 gx39 ?_
  obtain ⟨M8, eM8, h⟩ := jlet_s h
  refine j_puti' (pc' := 98) hC dX0_become_95 rfl fp_X0_34 gx52 eM8 ?_
  refine j_aload_n 0 (pc' := 99) hC dX0_become_98 rfl rfl ?_
  refine j_aload_n 1 (pc' := 100) hC dX0_become_99 rfl rfl ?_
  refine j_geti' (pc' := 103) hC dX0_become_100 rfl fi_X0_37 gx39 ?_
  obtain ⟨M9, eM9, h⟩ := jlet_s h
  refine j_puti' (pc' := 106) hC dX0_become_103 rfl fp_X0_37 gx52 eM9 ?_
  refine j_aload_n 0 (pc' := 107) hC dX0_become_106 rfl rfl ?_
  refine j_aload_n 1 (pc' := 108) hC dX0_become_107 rfl rfl ?_
  refine j_geti' (pc' := 111) hC dX0_become_108 rfl fi_X0_40 gx39 ?_
  obtain ⟨M10, eM10, h⟩ := jlet_s h
  refine j_puti' (pc' := 114) hC dX0_become_111 rfl fp_X0_40 gx52 eM10 ?_
  refine j_aload_n 0 (pc' := 115) hC dX0_become_114 rfl rfl ?_
  refine j_aload_n 1 (pc' := 116) hC dX0_become_115 rfl rfl ?_
  refine j_geti' (pc' := 119) hC dX0_become_116 rfl fi_X0_43 gx39 ?_
  obtain ⟨M11, eM11, h⟩ := jlet_s h
  refine j_puti' (pc' := 122) hC dX0_become_119 rfl fp_X0_43 gx52 eM11 ?_
  have q8 := jinj1 h
  subst q8
  exact j_vret hC dX0_become_122
theorem t_X0_becomek2c (l : Launch) (E : jE) {M : jM} {M' : jM} (h : f_X0_becomek2c M = some M') : jCv l yX0_become cX0_become 2 (none) 1 30 E RX GX (fun a _ => [.ref (a 58), .ref (a 39)]) M M' := by
  refine jCv_of (own := RX0) (by decide) rfl (fun _ _ => Nat.le_of_ble_eq_true rfl) ?_
  intro Γ hC
  show jJ Γ GX RX 0 [(0, .ref (jad Γ 58)), (1, .ref (jad Γ 39))] [] M (jQv Γ RX GX M')
  unfold f_X0_becomek2c at h
  refine j_aload_n 1 (pc' := 1) hC dX0_become_0 rfl rfl ?_
  refine j_getr' (o2 := 40) (pc' := 4) hC dX0_become_1 rfl fi_X0_9 gx39 rfl ?_
  refine j_iconst (v := 0) (pc' := 5) hC dX0_become_4 rfl rfl ?_
  refine j_aload_n 0 (pc' := 6) hC dX0_become_5 rfl rfl ?_
  refine j_getr' (o2 := 59) (pc' := 9) hC dX0_become_6 rfl fi_X0_9 gx58 rfl ?_
  refine j_iconst (v := 0) (pc' := 10) hC dX0_become_9 rfl rfl ?_
  refine j_iconst (v := 3) (pc' := 11) hC dX0_become_10 rfl rfl ?_
  obtain ⟨M1, eM1, h⟩ := jlet_s h
  refine j_acopy' (pc' := 14) hC dX0_become_11 rfl ca_X0_53 gx40 gx59 (by decide) ⟨Nat.le_of_ble_eq_true rfl, Nat.le_of_ble_eq_true rfl⟩ eM1 ?_
  refine j_aload_n 1 (pc' := 15) hC dX0_become_14 rfl rfl ?_
  refine j_getr' (o2 := 41) (pc' := 18) hC dX0_become_15 rfl fi_X0_15 gx39 rfl ?_
  refine j_iconst (v := 0) (pc' := 19) hC dX0_become_18 rfl rfl ?_
  refine j_aload_n 0 (pc' := 20) hC dX0_become_19 rfl rfl ?_
  refine j_getr' (o2 := 60) (pc' := 23) hC dX0_become_20 rfl fi_X0_15 gx58 rfl ?_
  refine j_iconst (v := 0) (pc' := 24) hC dX0_become_23 rfl rfl ?_
  refine j_bipush (v := 40) (pc' := 26) hC dX0_become_24 rfl rfl ?_
  obtain ⟨M2, eM2, h⟩ := jlet_s h
  refine j_acopy' (pc' := 29) hC dX0_become_26 rfl ca_X0_53 gx41 gx60 (by decide) ⟨Nat.le_of_ble_eq_true rfl, Nat.le_of_ble_eq_true rfl⟩ eM2 ?_
  refine j_aload_n 1 (pc' := 30) hC dX0_become_29 rfl rfl ?_
  refine j_getr' (o2 := 42) (pc' := 33) hC dX0_become_30 rfl fi_X0_18 gx39 rfl ?_
  refine j_iconst (v := 0) (pc' := 34) hC dX0_become_33 rfl rfl ?_
  refine j_aload_n 0 (pc' := 35) hC dX0_become_34 rfl rfl ?_
  refine j_getr' (o2 := 61) (pc' := 38) hC dX0_become_35 rfl fi_X0_18 gx58 rfl ?_
  refine j_iconst (v := 0) (pc' := 39) hC dX0_become_38 rfl rfl ?_
  refine j_bipush (v := 40) (pc' := 41) hC dX0_become_39 rfl rfl ?_
  obtain ⟨M3, eM3, h⟩ := jlet_s h
  refine j_acopy' (pc' := 44) hC dX0_become_41 rfl ca_X0_53 gx42 gx61 (by decide) ⟨Nat.le_of_ble_eq_true rfl, Nat.le_of_ble_eq_true rfl⟩ eM3 ?_
  refine j_aload_n 1 (pc' := 45) hC dX0_become_44 rfl rfl ?_
  refine j_getr' (o2 := 43) (pc' := 48) hC dX0_become_45 rfl fi_X0_21 gx39 rfl ?_
  refine j_iconst (v := 0) (pc' := 49) hC dX0_become_48 rfl rfl ?_
  refine j_aload_n 0 (pc' := 50) hC dX0_become_49 rfl rfl ?_
  refine j_getr' (o2 := 62) (pc' := 53) hC dX0_become_50 rfl fi_X0_21 gx58 rfl ?_
  refine j_iconst (v := 0) (pc' := 54) hC dX0_become_53 rfl rfl ?_
  refine j_bipush (v := 40) (pc' := 56) hC dX0_become_54 rfl rfl ?_
  obtain ⟨M4, eM4, h⟩ := jlet_s h
  refine j_acopy' (pc' := 59) hC dX0_become_56 rfl ca_X0_53 gx43 gx62 (by decide) ⟨Nat.le_of_ble_eq_true rfl, Nat.le_of_ble_eq_true rfl⟩ eM4 ?_
  refine j_aload_n 1 (pc' := 60) hC dX0_become_59 rfl rfl ?_
  refine j_getr' (o2 := 44) (pc' := 63) hC dX0_become_60 rfl fi_X0_24 gx39 rfl ?_
  refine j_iconst (v := 0) (pc' := 64) hC dX0_become_63 rfl rfl ?_
  refine j_aload_n 0 (pc' := 65) hC dX0_become_64 rfl rfl ?_
  refine j_getr' (o2 := 63) (pc' := 68) hC dX0_become_65 rfl fi_X0_24 gx58 rfl ?_
  refine j_iconst (v := 0) (pc' := 69) hC dX0_become_68 rfl rfl ?_
  refine j_bipush (v := 7) (pc' := 71) hC dX0_become_69 rfl rfl ?_
  obtain ⟨M5, eM5, h⟩ := jlet_s h
  refine j_acopy' (pc' := 74) hC dX0_become_71 rfl ca_X0_53 gx44 gx63 (by decide) ⟨Nat.le_of_ble_eq_true rfl, Nat.le_of_ble_eq_true rfl⟩ eM5 ?_
  refine j_aload_n 0 (pc' := 75) hC dX0_become_74 rfl rfl ?_
  refine j_aload_n 1 (pc' := 76) hC dX0_become_75 rfl rfl ?_
  refine j_geti' (pc' := 79) hC dX0_become_76 rfl fi_X0_27 gx39 ?_
  obtain ⟨M6, eM6, h⟩ := jlet_s h
  refine j_puti' (pc' := 82) hC dX0_become_79 rfl fp_X0_27 gx58 eM6 ?_
  refine j_aload_n 0 (pc' := 83) hC dX0_become_82 rfl rfl ?_
  refine j_aload_n 1 (pc' := 84) hC dX0_become_83 rfl rfl ?_
  refine j_geti' (pc' := 87) hC dX0_become_84 rfl fi_X0_31 gx39 ?_
  obtain ⟨M7, eM7, h⟩ := jlet_s h
  refine j_puti' (pc' := 90) hC dX0_become_87 rfl fp_X0_31 gx58 eM7 ?_
  refine j_aload_n 0 (pc' := 91) hC dX0_become_90 rfl rfl ?_
  refine j_aload_n 1 (pc' := 92) hC dX0_become_91 rfl rfl ?_
  refine j_geti' (pc' := 95) hC dX0_become_92 rfl fi_X0_34 gx39 ?_
  obtain ⟨M8, eM8, h⟩ := jlet_s h
  refine j_puti' (pc' := 98) hC dX0_become_95 rfl fp_X0_34 gx58 eM8 ?_
  refine j_aload_n 0 (pc' := 99) hC dX0_become_98 rfl rfl ?_
  refine j_aload_n 1 (pc' := 100) hC dX0_become_99 rfl rfl ?_
  refine j_geti' (pc' := 103) hC dX0_become_100 rfl fi_X0_37 gx39 ?_
  obtain ⟨M9, eM9, h⟩ := jlet_s h
  refine j_puti' (pc' := 106) hC dX0_become_103 rfl fp_X0_37 gx58 eM9 ?_
  refine j_aload_n 0 (pc' := 107) hC dX0_become_106 rfl rfl ?_
  refine j_aload_n 1 (pc' := 108) hC dX0_become_107 rfl rfl ?_
  refine j_geti' (pc' := 111) hC dX0_become_108 rfl fi_X0_40 gx39 ?_
  obtain ⟨M10, eM10, h⟩ := jlet_s h
  refine j_puti' (pc' := 114) hC dX0_become_111 rfl fp_X0_40 gx58 eM10 ?_
  refine j_aload_n 0 (pc' := 115) hC dX0_become_114 rfl rfl ?_
  refine j_aload_n 1 (pc' := 116) hC dX0_become_115 rfl rfl ?_
  refine j_geti' (pc' := 119) hC dX0_become_116 rfl fi_X0_43 gx39 ?_
  obtain ⟨M11, eM11, h⟩ := jlet_s h
  refine j_puti' (pc' := 122) hC dX0_become_119 rfl fp_X0_43 gx58 eM11 ?_
  have q8 := jinj1 h
  subst q8
  exact j_vret hC dX0_become_122
theorem t_X5_keep (l : Launch) (E : jE) {a1 : Int32} {M : jM} {r : Int32} {M' : jM} (h : f_X5_keep a1 M = some (r, M')) : jCi l yX5_keep cX5_keep 2 (some .int) 2 51 E RX GX (fun a _ => [.ref (a 0), .int a1]) M r M' := by
  refine jCi_of (own := RX5) (by decide) rfl (fun _ _ => Nat.le_of_ble_eq_true rfl) ?_
  intro Γ hC
  show jJ Γ GX RX 0 [(0, .ref (jad Γ 0)), (1, .int a1)] [] M (jQi Γ RX GX r M')
  unfold f_X5_keep at h
  refine j_iload_n 1 (pc' := 1) hC dX5_keep_0 rfl rfl ?_
  refine j_if_lt (tgt := 9) (pc' := 4) hC dX5_keep_1 (by decide) rfl (fun c1 => ?_) (fun c1 => ?_)
  · have h := jit_t c1 h
    refine j_iconst (v := -1) (pc' := 10) hC dX5_keep_9 rfl rfl ?_
    obtain ⟨q0, q1⟩ := jinj2 h
    subst q0
    subst q1
    exact j_iret hC dX5_keep_10
  · have h := jit_f c1 h
    refine j_iload_n 1 (pc' := 5) hC dX5_keep_4 rfl rfl ?_
    refine j_iconst (v := 3) (pc' := 6) hC dX5_keep_5 rfl rfl ?_
    refine j_icmp_lt (tgt := 11) (pc' := 9) hC dX5_keep_6 (by decide) rfl (fun c2 => ?_) (fun c2 => ?_)
    · have h := jit_t c2 h
      refine j_aload_n 0 (pc' := 12) hC dX5_keep_11 rfl rfl ?_
      refine j_getr' (o2 := 29) (pc' := 15) hC dX5_keep_12 rfl fi_X5_31 gx0 rfl ?_
      refine j_geti' (pc' := 18) hC dX5_keep_15 rfl fi_X5_140 gx29 ?_
      refine j_if_ne (tgt := 24) (pc' := 21) hC dX5_keep_18 (by decide) rfl (fun c3 => ?_) (fun c3 => ?_)
      · have h := jit_f c3 h
        refine j_aload_n 0 (pc' := 25) hC dX5_keep_24 rfl rfl ?_
        refine j_getr' (o2 := 45) (pc' := 28) hC dX5_keep_25 rfl fi_X5_44 gx0 rfl ?_
        refine j_iload_n 1 (pc' := 29) hC dX5_keep_28 rfl rfl ?_
        obtain ⟨g4, h⟩ := jg_s h
        by_cases c17 : a1 = 0
        · have h := jit_t c17 h
          refine j_aald3 (o2 := 46) (pc' := 30) hC dX5_keep_29 rfl gx45 g4 (by rw [c17]; rfl) ?_
          refine j_aload_n 0 (pc' := 31) hC dX5_keep_30 rfl rfl ?_
          refine j_getr' (o2 := 39) (pc' := 34) hC dX5_keep_31 rfl fi_X5_40 gx0 rfl ?_
          obtain ⟨M5, hc6, h⟩ := jb1_s h
          refine j_callVv [.ref (jad Γ 39)] (pc' := 37) hC dX5_keep_34 rfl (t_X0_becomek0c _ _ hc6) gx46 vcl0 cv_X5_216 ⟨⟨Nat.le_of_ble_eq_true rfl, Nat.le_of_ble_eq_true rfl⟩, rfl, Nat.le_of_ble_eq_true rfl⟩ rfl rfl ?_
          refine j_aload_n 0 (pc' := 38) hC dX5_keep_37 rfl rfl ?_
          refine j_getr' (o2 := 64) (pc' := 41) hC dX5_keep_38 rfl fi_X5_48 gx0 rfl ?_
          refine j_iload_n 1 (pc' := 42) hC dX5_keep_41 rfl rfl ?_
          refine j_iconst (v := 1) (pc' := 43) hC dX5_keep_42 rfl rfl ?_
          obtain ⟨g7, h⟩ := jg_s h
          obtain ⟨M8, eM8, h⟩ := jlet_s h
          refine j_zast' (pc' := 44) hC dX5_keep_43 rfl gx64 g7 eM8 ?_
          refine j_aload_n 0 (pc' := 45) hC dX5_keep_44 rfl rfl ?_
          refine j_getr' (o2 := 39) (pc' := 48) hC dX5_keep_45 rfl fi_X5_40 gx0 rfl ?_
          refine j_geti' (pc' := 51) hC dX5_keep_48 rfl fi_X5_187 gx39 ?_
          obtain ⟨q0, q1⟩ := jinj2 h
          subst q0
          subst q1
          exact j_iret hC dX5_keep_51
        · have h := jit_f c17 h
          by_cases c18 : a1 = 1
          · have h := jit_t c18 h
            refine j_aald3 (o2 := 52) (pc' := 30) hC dX5_keep_29 rfl gx45 g4 (by rw [c18]; rfl) ?_
            refine j_aload_n 0 (pc' := 31) hC dX5_keep_30 rfl rfl ?_
            refine j_getr' (o2 := 39) (pc' := 34) hC dX5_keep_31 rfl fi_X5_40 gx0 rfl ?_
            obtain ⟨M9, hc10, h⟩ := jb1_s h
            refine j_callVv [.ref (jad Γ 39)] (pc' := 37) hC dX5_keep_34 rfl (t_X0_becomek1c _ _ hc10) gx52 vcl0 cv_X5_216 ⟨⟨Nat.le_of_ble_eq_true rfl, Nat.le_of_ble_eq_true rfl⟩, rfl, Nat.le_of_ble_eq_true rfl⟩ rfl rfl ?_
            refine j_aload_n 0 (pc' := 38) hC dX5_keep_37 rfl rfl ?_
            refine j_getr' (o2 := 64) (pc' := 41) hC dX5_keep_38 rfl fi_X5_48 gx0 rfl ?_
            refine j_iload_n 1 (pc' := 42) hC dX5_keep_41 rfl rfl ?_
            refine j_iconst (v := 1) (pc' := 43) hC dX5_keep_42 rfl rfl ?_
            obtain ⟨g11, h⟩ := jg_s h
            obtain ⟨M12, eM12, h⟩ := jlet_s h
            refine j_zast' (pc' := 44) hC dX5_keep_43 rfl gx64 g11 eM12 ?_
            refine j_aload_n 0 (pc' := 45) hC dX5_keep_44 rfl rfl ?_
            refine j_getr' (o2 := 39) (pc' := 48) hC dX5_keep_45 rfl fi_X5_40 gx0 rfl ?_
            refine j_geti' (pc' := 51) hC dX5_keep_48 rfl fi_X5_187 gx39 ?_
            obtain ⟨q0, q1⟩ := jinj2 h
            subst q0
            subst q1
            exact j_iret hC dX5_keep_51
          · have h := jit_f c18 h
            refine j_aald3 (o2 := 58) (pc' := 30) hC dX5_keep_29 rfl gx45 g4 (by rw [jin3 g4 c17 c18]; rfl) ?_
            refine j_aload_n 0 (pc' := 31) hC dX5_keep_30 rfl rfl ?_
            refine j_getr' (o2 := 39) (pc' := 34) hC dX5_keep_31 rfl fi_X5_40 gx0 rfl ?_
            obtain ⟨M13, hc14, h⟩ := jb1_s h
            refine j_callVv [.ref (jad Γ 39)] (pc' := 37) hC dX5_keep_34 rfl (t_X0_becomek2c _ _ hc14) gx58 vcl0 cv_X5_216 ⟨⟨Nat.le_of_ble_eq_true rfl, Nat.le_of_ble_eq_true rfl⟩, rfl, Nat.le_of_ble_eq_true rfl⟩ rfl rfl ?_
            refine j_aload_n 0 (pc' := 38) hC dX5_keep_37 rfl rfl ?_
            refine j_getr' (o2 := 64) (pc' := 41) hC dX5_keep_38 rfl fi_X5_48 gx0 rfl ?_
            refine j_iload_n 1 (pc' := 42) hC dX5_keep_41 rfl rfl ?_
            refine j_iconst (v := 1) (pc' := 43) hC dX5_keep_42 rfl rfl ?_
            obtain ⟨g15, h⟩ := jg_s h
            obtain ⟨M16, eM16, h⟩ := jlet_s h
            refine j_zast' (pc' := 44) hC dX5_keep_43 rfl gx64 g15 eM16 ?_
            refine j_aload_n 0 (pc' := 45) hC dX5_keep_44 rfl rfl ?_
            refine j_getr' (o2 := 39) (pc' := 48) hC dX5_keep_45 rfl fi_X5_40 gx0 rfl ?_
            refine j_geti' (pc' := 51) hC dX5_keep_48 rfl fi_X5_187 gx39 ?_
            obtain ⟨q0, q1⟩ := jinj2 h
            subst q0
            subst q1
            exact j_iret hC dX5_keep_51
      · have h := jit_t c3 h
        refine j_bipush (v := -4) (pc' := 23) hC dX5_keep_21 rfl rfl ?_
        obtain ⟨q0, q1⟩ := jinj2 h
        subst q0
        subst q1
        exact j_iret hC dX5_keep_23
    · have h := jit_f c2 h
      refine j_iconst (v := -1) (pc' := 10) hC dX5_keep_9 rfl rfl ?_
      obtain ⟨q0, q1⟩ := jinj2 h
      subst q0
      subst q1
      exact j_iret hC dX5_keep_10
theorem t_X0_becomeck0 (l : Launch) (E : jE) {M : jM} {M' : jM} (h : f_X0_becomeck0 M = some M') : jCv l yX0_become cX0_become 2 (none) 1 30 E RX GX (fun a _ => [.ref (a 39), .ref (a 46)]) M M' := by
  refine jCv_of (own := RX0) (by decide) rfl (fun _ _ => Nat.le_of_ble_eq_true rfl) ?_
  intro Γ hC
  show jJ Γ GX RX 0 [(0, .ref (jad Γ 39)), (1, .ref (jad Γ 46))] [] M (jQv Γ RX GX M')
  unfold f_X0_becomeck0 at h
  refine j_aload_n 1 (pc' := 1) hC dX0_become_0 rfl rfl ?_
  refine j_getr' (o2 := 47) (pc' := 4) hC dX0_become_1 rfl fi_X0_9 gx46 rfl ?_
  refine j_iconst (v := 0) (pc' := 5) hC dX0_become_4 rfl rfl ?_
  refine j_aload_n 0 (pc' := 6) hC dX0_become_5 rfl rfl ?_
  refine j_getr' (o2 := 40) (pc' := 9) hC dX0_become_6 rfl fi_X0_9 gx39 rfl ?_
  refine j_iconst (v := 0) (pc' := 10) hC dX0_become_9 rfl rfl ?_
  refine j_iconst (v := 3) (pc' := 11) hC dX0_become_10 rfl rfl ?_
  obtain ⟨M1, eM1, h⟩ := jlet_s h
  refine j_acopy' (pc' := 14) hC dX0_become_11 rfl ca_X0_53 gx47 gx40 (by decide) ⟨Nat.le_of_ble_eq_true rfl, Nat.le_of_ble_eq_true rfl⟩ eM1 ?_
  refine j_aload_n 1 (pc' := 15) hC dX0_become_14 rfl rfl ?_
  refine j_getr' (o2 := 48) (pc' := 18) hC dX0_become_15 rfl fi_X0_15 gx46 rfl ?_
  refine j_iconst (v := 0) (pc' := 19) hC dX0_become_18 rfl rfl ?_
  refine j_aload_n 0 (pc' := 20) hC dX0_become_19 rfl rfl ?_
  refine j_getr' (o2 := 41) (pc' := 23) hC dX0_become_20 rfl fi_X0_15 gx39 rfl ?_
  refine j_iconst (v := 0) (pc' := 24) hC dX0_become_23 rfl rfl ?_
  refine j_bipush (v := 40) (pc' := 26) hC dX0_become_24 rfl rfl ?_
  obtain ⟨M2, eM2, h⟩ := jlet_s h
  refine j_acopy' (pc' := 29) hC dX0_become_26 rfl ca_X0_53 gx48 gx41 (by decide) ⟨Nat.le_of_ble_eq_true rfl, Nat.le_of_ble_eq_true rfl⟩ eM2 ?_
  refine j_aload_n 1 (pc' := 30) hC dX0_become_29 rfl rfl ?_
  refine j_getr' (o2 := 49) (pc' := 33) hC dX0_become_30 rfl fi_X0_18 gx46 rfl ?_
  refine j_iconst (v := 0) (pc' := 34) hC dX0_become_33 rfl rfl ?_
  refine j_aload_n 0 (pc' := 35) hC dX0_become_34 rfl rfl ?_
  refine j_getr' (o2 := 42) (pc' := 38) hC dX0_become_35 rfl fi_X0_18 gx39 rfl ?_
  refine j_iconst (v := 0) (pc' := 39) hC dX0_become_38 rfl rfl ?_
  refine j_bipush (v := 40) (pc' := 41) hC dX0_become_39 rfl rfl ?_
  obtain ⟨M3, eM3, h⟩ := jlet_s h
  refine j_acopy' (pc' := 44) hC dX0_become_41 rfl ca_X0_53 gx49 gx42 (by decide) ⟨Nat.le_of_ble_eq_true rfl, Nat.le_of_ble_eq_true rfl⟩ eM3 ?_
  refine j_aload_n 1 (pc' := 45) hC dX0_become_44 rfl rfl ?_
  refine j_getr' (o2 := 50) (pc' := 48) hC dX0_become_45 rfl fi_X0_21 gx46 rfl ?_
  refine j_iconst (v := 0) (pc' := 49) hC dX0_become_48 rfl rfl ?_
  refine j_aload_n 0 (pc' := 50) hC dX0_become_49 rfl rfl ?_
  refine j_getr' (o2 := 43) (pc' := 53) hC dX0_become_50 rfl fi_X0_21 gx39 rfl ?_
  refine j_iconst (v := 0) (pc' := 54) hC dX0_become_53 rfl rfl ?_
  refine j_bipush (v := 40) (pc' := 56) hC dX0_become_54 rfl rfl ?_
  obtain ⟨M4, eM4, h⟩ := jlet_s h
  refine j_acopy' (pc' := 59) hC dX0_become_56 rfl ca_X0_53 gx50 gx43 (by decide) ⟨Nat.le_of_ble_eq_true rfl, Nat.le_of_ble_eq_true rfl⟩ eM4 ?_
  refine j_aload_n 1 (pc' := 60) hC dX0_become_59 rfl rfl ?_
  refine j_getr' (o2 := 51) (pc' := 63) hC dX0_become_60 rfl fi_X0_24 gx46 rfl ?_
  refine j_iconst (v := 0) (pc' := 64) hC dX0_become_63 rfl rfl ?_
  refine j_aload_n 0 (pc' := 65) hC dX0_become_64 rfl rfl ?_
  refine j_getr' (o2 := 44) (pc' := 68) hC dX0_become_65 rfl fi_X0_24 gx39 rfl ?_
  refine j_iconst (v := 0) (pc' := 69) hC dX0_become_68 rfl rfl ?_
  refine j_bipush (v := 7) (pc' := 71) hC dX0_become_69 rfl rfl ?_
  obtain ⟨M5, eM5, h⟩ := jlet_s h
  refine j_acopy' (pc' := 74) hC dX0_become_71 rfl ca_X0_53 gx51 gx44 (by decide) ⟨Nat.le_of_ble_eq_true rfl, Nat.le_of_ble_eq_true rfl⟩ eM5 ?_
  refine j_aload_n 0 (pc' := 75) hC dX0_become_74 rfl rfl ?_
  refine j_aload_n 1 (pc' := 76) hC dX0_become_75 rfl rfl ?_
  refine j_geti' (pc' := 79) hC dX0_become_76 rfl fi_X0_27 gx46 ?_
  obtain ⟨M6, eM6, h⟩ := jlet_s h
  refine j_puti' (pc' := 82) hC dX0_become_79 rfl fp_X0_27 gx39 eM6 ?_
  refine j_aload_n 0 (pc' := 83) hC dX0_become_82 rfl rfl ?_
  refine j_aload_n 1 (pc' := 84) hC dX0_become_83 rfl rfl ?_
  refine j_geti' (pc' := 87) hC dX0_become_84 rfl fi_X0_31 gx46 ?_
  obtain ⟨M7, eM7, h⟩ := jlet_s h
  refine j_puti' (pc' := 90) hC dX0_become_87 rfl fp_X0_31 gx39 eM7 ?_
  refine j_aload_n 0 (pc' := 91) hC dX0_become_90 rfl rfl ?_
  refine j_aload_n 1 (pc' := 92) hC dX0_become_91 rfl rfl ?_
  refine j_geti' (pc' := 95) hC dX0_become_92 rfl fi_X0_34 gx46 ?_
  obtain ⟨M8, eM8, h⟩ := jlet_s h
  refine j_puti' (pc' := 98) hC dX0_become_95 rfl fp_X0_34 gx39 eM8 ?_
  refine j_aload_n 0 (pc' := 99) hC dX0_become_98 rfl rfl ?_
  refine j_aload_n 1 (pc' := 100) hC dX0_become_99 rfl rfl ?_
  refine j_geti' (pc' := 103) hC dX0_become_100 rfl fi_X0_37 gx46 ?_
  obtain ⟨M9, eM9, h⟩ := jlet_s h
  refine j_puti' (pc' := 106) hC dX0_become_103 rfl fp_X0_37 gx39 eM9 ?_
  refine j_aload_n 0 (pc' := 107) hC dX0_become_106 rfl rfl ?_
  refine j_aload_n 1 (pc' := 108) hC dX0_become_107 rfl rfl ?_
  refine j_geti' (pc' := 111) hC dX0_become_108 rfl fi_X0_40 gx46 ?_
  obtain ⟨M10, eM10, h⟩ := jlet_s h
  refine j_puti' (pc' := 114) hC dX0_become_111 rfl fp_X0_40 gx39 eM10 ?_
  refine j_aload_n 0 (pc' := 115) hC dX0_become_114 rfl rfl ?_
  refine j_aload_n 1 (pc' := 116) hC dX0_become_115 rfl rfl ?_
  refine j_geti' (pc' := 119) hC dX0_become_116 rfl fi_X0_43 gx46 ?_
  obtain ⟨M11, eM11, h⟩ := jlet_s h
  refine j_puti' (pc' := 122) hC dX0_become_119 rfl fp_X0_43 gx39 eM11 ?_
  have q8 := jinj1 h
  subst q8
  exact j_vret hC dX0_become_122
theorem t_X0_becomeck1 (l : Launch) (E : jE) {M : jM} {M' : jM} (h : f_X0_becomeck1 M = some M') : jCv l yX0_become cX0_become 2 (none) 1 30 E RX GX (fun a _ => [.ref (a 39), .ref (a 52)]) M M' := by
  refine jCv_of (own := RX0) (by decide) rfl (fun _ _ => Nat.le_of_ble_eq_true rfl) ?_
  intro Γ hC
  show jJ Γ GX RX 0 [(0, .ref (jad Γ 39)), (1, .ref (jad Γ 52))] [] M (jQv Γ RX GX M')
  unfold f_X0_becomeck1 at h
  refine j_aload_n 1 (pc' := 1) hC dX0_become_0 rfl rfl ?_
  refine j_getr' (o2 := 53) (pc' := 4) hC dX0_become_1 rfl fi_X0_9 gx52 rfl ?_
  refine j_iconst (v := 0) (pc' := 5) hC dX0_become_4 rfl rfl ?_
  refine j_aload_n 0 (pc' := 6) hC dX0_become_5 rfl rfl ?_
  refine j_getr' (o2 := 40) (pc' := 9) hC dX0_become_6 rfl fi_X0_9 gx39 rfl ?_
  refine j_iconst (v := 0) (pc' := 10) hC dX0_become_9 rfl rfl ?_
  refine j_iconst (v := 3) (pc' := 11) hC dX0_become_10 rfl rfl ?_
  obtain ⟨M1, eM1, h⟩ := jlet_s h
  refine j_acopy' (pc' := 14) hC dX0_become_11 rfl ca_X0_53 gx53 gx40 (by decide) ⟨Nat.le_of_ble_eq_true rfl, Nat.le_of_ble_eq_true rfl⟩ eM1 ?_
  refine j_aload_n 1 (pc' := 15) hC dX0_become_14 rfl rfl ?_
  refine j_getr' (o2 := 54) (pc' := 18) hC dX0_become_15 rfl fi_X0_15 gx52 rfl ?_
  refine j_iconst (v := 0) (pc' := 19) hC dX0_become_18 rfl rfl ?_
  refine j_aload_n 0 (pc' := 20) hC dX0_become_19 rfl rfl ?_
  refine j_getr' (o2 := 41) (pc' := 23) hC dX0_become_20 rfl fi_X0_15 gx39 rfl ?_
  refine j_iconst (v := 0) (pc' := 24) hC dX0_become_23 rfl rfl ?_
  refine j_bipush (v := 40) (pc' := 26) hC dX0_become_24 rfl rfl ?_
  obtain ⟨M2, eM2, h⟩ := jlet_s h
  refine j_acopy' (pc' := 29) hC dX0_become_26 rfl ca_X0_53 gx54 gx41 (by decide) ⟨Nat.le_of_ble_eq_true rfl, Nat.le_of_ble_eq_true rfl⟩ eM2 ?_
  refine j_aload_n 1 (pc' := 30) hC dX0_become_29 rfl rfl ?_
  refine j_getr' (o2 := 55) (pc' := 33) hC dX0_become_30 rfl fi_X0_18 gx52 rfl ?_
  refine j_iconst (v := 0) (pc' := 34) hC dX0_become_33 rfl rfl ?_
  refine j_aload_n 0 (pc' := 35) hC dX0_become_34 rfl rfl ?_
  refine j_getr' (o2 := 42) (pc' := 38) hC dX0_become_35 rfl fi_X0_18 gx39 rfl ?_
  refine j_iconst (v := 0) (pc' := 39) hC dX0_become_38 rfl rfl ?_
  refine j_bipush (v := 40) (pc' := 41) hC dX0_become_39 rfl rfl ?_
  obtain ⟨M3, eM3, h⟩ := jlet_s h
  refine j_acopy' (pc' := 44) hC dX0_become_41 rfl ca_X0_53 gx55 gx42 (by decide) ⟨Nat.le_of_ble_eq_true rfl, Nat.le_of_ble_eq_true rfl⟩ eM3 ?_
  refine j_aload_n 1 (pc' := 45) hC dX0_become_44 rfl rfl ?_
  refine j_getr' (o2 := 56) (pc' := 48) hC dX0_become_45 rfl fi_X0_21 gx52 rfl ?_
  refine j_iconst (v := 0) (pc' := 49) hC dX0_become_48 rfl rfl ?_
  refine j_aload_n 0 (pc' := 50) hC dX0_become_49 rfl rfl ?_
  refine j_getr' (o2 := 43) (pc' := 53) hC dX0_become_50 rfl fi_X0_21 gx39 rfl ?_
  refine j_iconst (v := 0) (pc' := 54) hC dX0_become_53 rfl rfl ?_
  refine j_bipush (v := 40) (pc' := 56) hC dX0_become_54 rfl rfl ?_
  obtain ⟨M4, eM4, h⟩ := jlet_s h
  refine j_acopy' (pc' := 59) hC dX0_become_56 rfl ca_X0_53 gx56 gx43 (by decide) ⟨Nat.le_of_ble_eq_true rfl, Nat.le_of_ble_eq_true rfl⟩ eM4 ?_
  refine j_aload_n 1 (pc' := 60) hC dX0_become_59 rfl rfl ?_
  refine j_getr' (o2 := 57) (pc' := 63) hC dX0_become_60 rfl fi_X0_24 gx52 rfl ?_
  refine j_iconst (v := 0) (pc' := 64) hC dX0_become_63 rfl rfl ?_
  refine j_aload_n 0 (pc' := 65) hC dX0_become_64 rfl rfl ?_
  refine j_getr' (o2 := 44) (pc' := 68) hC dX0_become_65 rfl fi_X0_24 gx39 rfl ?_
  refine j_iconst (v := 0) (pc' := 69) hC dX0_become_68 rfl rfl ?_
  refine j_bipush (v := 7) (pc' := 71) hC dX0_become_69 rfl rfl ?_
  obtain ⟨M5, eM5, h⟩ := jlet_s h
  refine j_acopy' (pc' := 74) hC dX0_become_71 rfl ca_X0_53 gx57 gx44 (by decide) ⟨Nat.le_of_ble_eq_true rfl, Nat.le_of_ble_eq_true rfl⟩ eM5 ?_
  refine j_aload_n 0 (pc' := 75) hC dX0_become_74 rfl rfl ?_
  refine j_aload_n 1 (pc' := 76) hC dX0_become_75 rfl rfl ?_
  refine j_geti' (pc' := 79) hC dX0_become_76 rfl fi_X0_27 gx52 ?_
  obtain ⟨M6, eM6, h⟩ := jlet_s h
  refine j_puti' (pc' := 82) hC dX0_become_79 rfl fp_X0_27 gx39 eM6 ?_
  refine j_aload_n 0 (pc' := 83) hC dX0_become_82 rfl rfl ?_
  refine j_aload_n 1 (pc' := 84) hC dX0_become_83 rfl rfl ?_
  refine j_geti' (pc' := 87) hC dX0_become_84 rfl fi_X0_31 gx52 ?_
  obtain ⟨M7, eM7, h⟩ := jlet_s h
  refine j_puti' (pc' := 90) hC dX0_become_87 rfl fp_X0_31 gx39 eM7 ?_
  refine j_aload_n 0 (pc' := 91) hC dX0_become_90 rfl rfl ?_
  refine j_aload_n 1 (pc' := 92) hC dX0_become_91 rfl rfl ?_
  refine j_geti' (pc' := 95) hC dX0_become_92 rfl fi_X0_34 gx52 ?_
  obtain ⟨M8, eM8, h⟩ := jlet_s h
  refine j_puti' (pc' := 98) hC dX0_become_95 rfl fp_X0_34 gx39 eM8 ?_
  refine j_aload_n 0 (pc' := 99) hC dX0_become_98 rfl rfl ?_
  refine j_aload_n 1 (pc' := 100) hC dX0_become_99 rfl rfl ?_
  refine j_geti' (pc' := 103) hC dX0_become_100 rfl fi_X0_37 gx52 ?_
  obtain ⟨M9, eM9, h⟩ := jlet_s h
  refine j_puti' (pc' := 106) hC dX0_become_103 rfl fp_X0_37 gx39 eM9 ?_
  refine j_aload_n 0 (pc' := 107) hC dX0_become_106 rfl rfl ?_
  refine j_aload_n 1 (pc' := 108) hC dX0_become_107 rfl rfl ?_
  refine j_geti' (pc' := 111) hC dX0_become_108 rfl fi_X0_40 gx52 ?_
  obtain ⟨M10, eM10, h⟩ := jlet_s h
  refine j_puti' (pc' := 114) hC dX0_become_111 rfl fp_X0_40 gx39 eM10 ?_
  refine j_aload_n 0 (pc' := 115) hC dX0_become_114 rfl rfl ?_
  refine j_aload_n 1 (pc' := 116) hC dX0_become_115 rfl rfl ?_
  refine j_geti' (pc' := 119) hC dX0_become_116 rfl fi_X0_43 gx52 ?_
  obtain ⟨M11, eM11, h⟩ := jlet_s h
  refine j_puti' (pc' := 122) hC dX0_become_119 rfl fp_X0_43 gx39 eM11 ?_
  have q8 := jinj1 h
  subst q8
  exact j_vret hC dX0_become_122
theorem t_X0_becomeck2 (l : Launch) (E : jE) {M : jM} {M' : jM} (h : f_X0_becomeck2 M = some M') : jCv l yX0_become cX0_become 2 (none) 1 30 E RX GX (fun a _ => [.ref (a 39), .ref (a 58)]) M M' := by
  refine jCv_of (own := RX0) (by decide) rfl (fun _ _ => Nat.le_of_ble_eq_true rfl) ?_
  intro Γ hC
  show jJ Γ GX RX 0 [(0, .ref (jad Γ 39)), (1, .ref (jad Γ 58))] [] M (jQv Γ RX GX M')
  unfold f_X0_becomeck2 at h
  refine j_aload_n 1 (pc' := 1) hC dX0_become_0 rfl rfl ?_
  refine j_getr' (o2 := 59) (pc' := 4) hC dX0_become_1 rfl fi_X0_9 gx58 rfl ?_
  refine j_iconst (v := 0) (pc' := 5) hC dX0_become_4 rfl rfl ?_
  refine j_aload_n 0 (pc' := 6) hC dX0_become_5 rfl rfl ?_
  refine j_getr' (o2 := 40) (pc' := 9) hC dX0_become_6 rfl fi_X0_9 gx39 rfl ?_
  refine j_iconst (v := 0) (pc' := 10) hC dX0_become_9 rfl rfl ?_
  refine j_iconst (v := 3) (pc' := 11) hC dX0_become_10 rfl rfl ?_
  obtain ⟨M1, eM1, h⟩ := jlet_s h
  refine j_acopy' (pc' := 14) hC dX0_become_11 rfl ca_X0_53 gx59 gx40 (by decide) ⟨Nat.le_of_ble_eq_true rfl, Nat.le_of_ble_eq_true rfl⟩ eM1 ?_
  refine j_aload_n 1 (pc' := 15) hC dX0_become_14 rfl rfl ?_
  refine j_getr' (o2 := 60) (pc' := 18) hC dX0_become_15 rfl fi_X0_15 gx58 rfl ?_
  refine j_iconst (v := 0) (pc' := 19) hC dX0_become_18 rfl rfl ?_
  refine j_aload_n 0 (pc' := 20) hC dX0_become_19 rfl rfl ?_
  refine j_getr' (o2 := 41) (pc' := 23) hC dX0_become_20 rfl fi_X0_15 gx39 rfl ?_
  refine j_iconst (v := 0) (pc' := 24) hC dX0_become_23 rfl rfl ?_
  refine j_bipush (v := 40) (pc' := 26) hC dX0_become_24 rfl rfl ?_
  obtain ⟨M2, eM2, h⟩ := jlet_s h
  refine j_acopy' (pc' := 29) hC dX0_become_26 rfl ca_X0_53 gx60 gx41 (by decide) ⟨Nat.le_of_ble_eq_true rfl, Nat.le_of_ble_eq_true rfl⟩ eM2 ?_
  refine j_aload_n 1 (pc' := 30) hC dX0_become_29 rfl rfl ?_
  refine j_getr' (o2 := 61) (pc' := 33) hC dX0_become_30 rfl fi_X0_18 gx58 rfl ?_
  refine j_iconst (v := 0) (pc' := 34) hC dX0_become_33 rfl rfl ?_
  refine j_aload_n 0 (pc' := 35) hC dX0_become_34 rfl rfl ?_
  refine j_getr' (o2 := 42) (pc' := 38) hC dX0_become_35 rfl fi_X0_18 gx39 rfl ?_
  refine j_iconst (v := 0) (pc' := 39) hC dX0_become_38 rfl rfl ?_
  refine j_bipush (v := 40) (pc' := 41) hC dX0_become_39 rfl rfl ?_
  obtain ⟨M3, eM3, h⟩ := jlet_s h
  refine j_acopy' (pc' := 44) hC dX0_become_41 rfl ca_X0_53 gx61 gx42 (by decide) ⟨Nat.le_of_ble_eq_true rfl, Nat.le_of_ble_eq_true rfl⟩ eM3 ?_
  refine j_aload_n 1 (pc' := 45) hC dX0_become_44 rfl rfl ?_
  refine j_getr' (o2 := 62) (pc' := 48) hC dX0_become_45 rfl fi_X0_21 gx58 rfl ?_
  refine j_iconst (v := 0) (pc' := 49) hC dX0_become_48 rfl rfl ?_
  refine j_aload_n 0 (pc' := 50) hC dX0_become_49 rfl rfl ?_
  refine j_getr' (o2 := 43) (pc' := 53) hC dX0_become_50 rfl fi_X0_21 gx39 rfl ?_
  refine j_iconst (v := 0) (pc' := 54) hC dX0_become_53 rfl rfl ?_
  refine j_bipush (v := 40) (pc' := 56) hC dX0_become_54 rfl rfl ?_
  obtain ⟨M4, eM4, h⟩ := jlet_s h
  refine j_acopy' (pc' := 59) hC dX0_become_56 rfl ca_X0_53 gx62 gx43 (by decide) ⟨Nat.le_of_ble_eq_true rfl, Nat.le_of_ble_eq_true rfl⟩ eM4 ?_
  refine j_aload_n 1 (pc' := 60) hC dX0_become_59 rfl rfl ?_
  refine j_getr' (o2 := 63) (pc' := 63) hC dX0_become_60 rfl fi_X0_24 gx58 rfl ?_
  refine j_iconst (v := 0) (pc' := 64) hC dX0_become_63 rfl rfl ?_
  refine j_aload_n 0 (pc' := 65) hC dX0_become_64 rfl rfl ?_
  refine j_getr' (o2 := 44) (pc' := 68) hC dX0_become_65 rfl fi_X0_24 gx39 rfl ?_
  refine j_iconst (v := 0) (pc' := 69) hC dX0_become_68 rfl rfl ?_
  refine j_bipush (v := 7) (pc' := 71) hC dX0_become_69 rfl rfl ?_
  obtain ⟨M5, eM5, h⟩ := jlet_s h
  refine j_acopy' (pc' := 74) hC dX0_become_71 rfl ca_X0_53 gx63 gx44 (by decide) ⟨Nat.le_of_ble_eq_true rfl, Nat.le_of_ble_eq_true rfl⟩ eM5 ?_
  refine j_aload_n 0 (pc' := 75) hC dX0_become_74 rfl rfl ?_
  refine j_aload_n 1 (pc' := 76) hC dX0_become_75 rfl rfl ?_
  refine j_geti' (pc' := 79) hC dX0_become_76 rfl fi_X0_27 gx58 ?_
  obtain ⟨M6, eM6, h⟩ := jlet_s h
  refine j_puti' (pc' := 82) hC dX0_become_79 rfl fp_X0_27 gx39 eM6 ?_
  refine j_aload_n 0 (pc' := 83) hC dX0_become_82 rfl rfl ?_
  refine j_aload_n 1 (pc' := 84) hC dX0_become_83 rfl rfl ?_
  refine j_geti' (pc' := 87) hC dX0_become_84 rfl fi_X0_31 gx58 ?_
  obtain ⟨M7, eM7, h⟩ := jlet_s h
  refine j_puti' (pc' := 90) hC dX0_become_87 rfl fp_X0_31 gx39 eM7 ?_
  refine j_aload_n 0 (pc' := 91) hC dX0_become_90 rfl rfl ?_
  refine j_aload_n 1 (pc' := 92) hC dX0_become_91 rfl rfl ?_
  refine j_geti' (pc' := 95) hC dX0_become_92 rfl fi_X0_34 gx58 ?_
  obtain ⟨M8, eM8, h⟩ := jlet_s h
  refine j_puti' (pc' := 98) hC dX0_become_95 rfl fp_X0_34 gx39 eM8 ?_
  refine j_aload_n 0 (pc' := 99) hC dX0_become_98 rfl rfl ?_
  refine j_aload_n 1 (pc' := 100) hC dX0_become_99 rfl rfl ?_
  refine j_geti' (pc' := 103) hC dX0_become_100 rfl fi_X0_37 gx58 ?_
  obtain ⟨M9, eM9, h⟩ := jlet_s h
  refine j_puti' (pc' := 106) hC dX0_become_103 rfl fp_X0_37 gx39 eM9 ?_
  refine j_aload_n 0 (pc' := 107) hC dX0_become_106 rfl rfl ?_
  refine j_aload_n 1 (pc' := 108) hC dX0_become_107 rfl rfl ?_
  refine j_geti' (pc' := 111) hC dX0_become_108 rfl fi_X0_40 gx58 ?_
  obtain ⟨M10, eM10, h⟩ := jlet_s h
  refine j_puti' (pc' := 114) hC dX0_become_111 rfl fp_X0_40 gx39 eM10 ?_
  refine j_aload_n 0 (pc' := 115) hC dX0_become_114 rfl rfl ?_
  refine j_aload_n 1 (pc' := 116) hC dX0_become_115 rfl rfl ?_
  refine j_geti' (pc' := 119) hC dX0_become_116 rfl fi_X0_43 gx58 ?_
  obtain ⟨M11, eM11, h⟩ := jlet_s h
  refine j_puti' (pc' := 122) hC dX0_become_119 rfl fp_X0_43 gx39 eM11 ?_
  have q8 := jinj1 h
  subst q8
  exact j_vret hC dX0_become_122
theorem t_X5_on (l : Launch) (E : jE) {a1 : Int32} {M : jM} {r : Int32} {M' : jM} (h : f_X5_on a1 M = some (r, M')) : jCi l yX5_on cX5_on 2 (some .int) 2 51 E RX GX (fun a _ => [.ref (a 0), .int a1]) M r M' := by
  refine jCi_of (own := RX5) (by decide) rfl (fun _ _ => Nat.le_of_ble_eq_true rfl) ?_
  intro Γ hC
  show jJ Γ GX RX 0 [(0, .ref (jad Γ 0)), (1, .int a1)] [] M (jQi Γ RX GX r M')
  unfold f_X5_on at h
  refine j_iload_n 1 (pc' := 1) hC dX5_on_0 rfl rfl ?_
  refine j_if_lt (tgt := 9) (pc' := 4) hC dX5_on_1 (by decide) rfl (fun c1 => ?_) (fun c1 => ?_)
  · have h := jit_t c1 h
    refine j_iconst (v := -1) (pc' := 10) hC dX5_on_9 rfl rfl ?_
    obtain ⟨q0, q1⟩ := jinj2 h
    subst q0
    subst q1
    exact j_iret hC dX5_on_10
  · have h := jit_f c1 h
    refine j_iload_n 1 (pc' := 5) hC dX5_on_4 rfl rfl ?_
    refine j_iconst (v := 3) (pc' := 6) hC dX5_on_5 rfl rfl ?_
    refine j_icmp_lt (tgt := 11) (pc' := 9) hC dX5_on_6 (by decide) rfl (fun c2 => ?_) (fun c2 => ?_)
    · have h := jit_t c2 h
      refine j_aload_n 0 (pc' := 12) hC dX5_on_11 rfl rfl ?_
      refine j_getr' (o2 := 64) (pc' := 15) hC dX5_on_12 rfl fi_X5_48 gx0 rfl ?_
      refine j_iload_n 1 (pc' := 16) hC dX5_on_15 rfl rfl ?_
      obtain ⟨g3, h⟩ := jg_s h
      refine j_zald (pc' := 17) hC dX5_on_16 rfl gx64 g3 ?_
      refine j_if_ne (tgt := 26) (pc' := 20) hC dX5_on_17 (by decide) rfl (fun c4 => ?_) (fun c4 => ?_)
      · have h := jit_f c4 h
        refine j_aload_n 0 (pc' := 27) hC dX5_on_26 rfl rfl ?_
        refine j_getr' (o2 := 39) (pc' := 30) hC dX5_on_27 rfl fi_X5_40 gx0 rfl ?_
        refine j_aload_n 0 (pc' := 31) hC dX5_on_30 rfl rfl ?_
        refine j_getr' (o2 := 45) (pc' := 34) hC dX5_on_31 rfl fi_X5_44 gx0 rfl ?_
        refine j_iload_n 1 (pc' := 35) hC dX5_on_34 rfl rfl ?_
        obtain ⟨g5, h⟩ := jg_s h
        by_cases c12 : a1 = 0
        · have h := jit_t c12 h
          refine j_aald3 (o2 := 46) (pc' := 36) hC dX5_on_35 rfl gx45 g5 (by rw [c12]; rfl) ?_
          obtain ⟨M6, hc7, h⟩ := jb1_s h
          refine j_callVv [.ref (jad Γ 46)] (pc' := 39) hC dX5_on_36 rfl (t_X0_becomeck0 _ _ hc7) gx39 vcl0 cv_X5_216 ⟨⟨Nat.le_of_ble_eq_true rfl, Nat.le_of_ble_eq_true rfl⟩, rfl, Nat.le_of_ble_eq_true rfl⟩ rfl rfl ?_
          refine j_aload_n 0 (pc' := 40) hC dX5_on_39 rfl rfl ?_
          refine j_getr' (o2 := 39) (pc' := 43) hC dX5_on_40 rfl fi_X5_40 gx0 rfl ?_
          refine j_geti' (pc' := 46) hC dX5_on_43 rfl fi_X5_187 gx39 ?_
          obtain ⟨q0, q1⟩ := jinj2 h
          subst q0
          subst q1
          exact j_iret hC dX5_on_46
        · have h := jit_f c12 h
          by_cases c13 : a1 = 1
          · have h := jit_t c13 h
            refine j_aald3 (o2 := 52) (pc' := 36) hC dX5_on_35 rfl gx45 g5 (by rw [c13]; rfl) ?_
            obtain ⟨M8, hc9, h⟩ := jb1_s h
            refine j_callVv [.ref (jad Γ 52)] (pc' := 39) hC dX5_on_36 rfl (t_X0_becomeck1 _ _ hc9) gx39 vcl0 cv_X5_216 ⟨⟨Nat.le_of_ble_eq_true rfl, Nat.le_of_ble_eq_true rfl⟩, rfl, Nat.le_of_ble_eq_true rfl⟩ rfl rfl ?_
            refine j_aload_n 0 (pc' := 40) hC dX5_on_39 rfl rfl ?_
            refine j_getr' (o2 := 39) (pc' := 43) hC dX5_on_40 rfl fi_X5_40 gx0 rfl ?_
            refine j_geti' (pc' := 46) hC dX5_on_43 rfl fi_X5_187 gx39 ?_
            obtain ⟨q0, q1⟩ := jinj2 h
            subst q0
            subst q1
            exact j_iret hC dX5_on_46
          · have h := jit_f c13 h
            refine j_aald3 (o2 := 58) (pc' := 36) hC dX5_on_35 rfl gx45 g5 (by rw [jin3 g5 c12 c13]; rfl) ?_
            obtain ⟨M10, hc11, h⟩ := jb1_s h
            refine j_callVv [.ref (jad Γ 58)] (pc' := 39) hC dX5_on_36 rfl (t_X0_becomeck2 _ _ hc11) gx39 vcl0 cv_X5_216 ⟨⟨Nat.le_of_ble_eq_true rfl, Nat.le_of_ble_eq_true rfl⟩, rfl, Nat.le_of_ble_eq_true rfl⟩ rfl rfl ?_
            refine j_aload_n 0 (pc' := 40) hC dX5_on_39 rfl rfl ?_
            refine j_getr' (o2 := 39) (pc' := 43) hC dX5_on_40 rfl fi_X5_40 gx0 rfl ?_
            refine j_geti' (pc' := 46) hC dX5_on_43 rfl fi_X5_187 gx39 ?_
            obtain ⟨q0, q1⟩ := jinj2 h
            subst q0
            subst q1
            exact j_iret hC dX5_on_46
      · have h := jit_t c4 h
        refine j_aload_n 0 (pc' := 21) hC dX5_on_20 rfl rfl ?_
        refine j_iconst (v := 1) (pc' := 22) hC dX5_on_21 rfl rfl ?_
        obtain ⟨r14, M15, hc16, h⟩ := jb2_s h
        refine j_callVi [.int (1 : Int32)] (pc' := 25) hC dX5_on_22 rfl (t_X5_find _ _ hc16) gx0 vcl5 cv_X5_81 ⟨⟨Nat.le_of_ble_eq_true rfl, Nat.le_of_ble_eq_true rfl⟩, rfl, Nat.le_of_ble_eq_true rfl⟩ rfl rfl ?_
        obtain ⟨q0, q1⟩ := jinj2 h
        subst q0
        subst q1
        exact j_iret hC dX5_on_25
    · have h := jit_f c2 h
      refine j_iconst (v := -1) (pc' := 10) hC dX5_on_9 rfl rfl ?_
      obtain ⟨q0, q1⟩ := jinj2 h
      subst q0
      subst q1
      exact j_iret hC dX5_on_10
theorem lp_X0_deedsFor_L4_b {Γ : jG} (hC : jOK Γ cX0_deedsFor 4 RX0 (some .int) { frames := 5, cells := 0, slots := 0, locals := 111 }) {Q : State → Prop} (rec : Int32 → Int32 → Int32 → jM → Option (Int32 × Int32)) (ih : ∀ (x1 : Int32) (x2 : Int32) (x3 : Int32) (M : jM) (e2 : Int32) (e3 : Int32), rec x1 x2 x3 M = some (e2, e3) → jJ Γ GX RX 40 [(0, .ref (jad Γ 39)), (1, .int x1), (2, .int e2), (3, .int e3)] [] M Q → jJ Γ GX RX 4 [(0, .ref (jad Γ 39)), (1, .int x1), (2, .int x2), (3, .int x3)] [] M Q) (x1 : Int32) (x2 : Int32) (x3 : Int32) (M : jM) (e2 : Int32) (e3 : Int32) (h : f_X0_deedsFor_L4_b rec x1 x2 x3 M = some (e2, e3)) (hK : jJ Γ GX RX 40 [(0, .ref (jad Γ 39)), (1, .int x1), (2, .int e2), (3, .int e3)] [] M Q) : jJ Γ GX RX 4 [(0, .ref (jad Γ 39)), (1, .int x1), (2, .int x2), (3, .int x3)] [] M Q := by
  unfold f_X0_deedsFor_L4_b at h
  refine j_iload_n 3 (pc' := 5) hC dX0_deedsFor_4 rfl rfl ?_
  refine j_aload_n 0 (pc' := 6) hC dX0_deedsFor_5 rfl rfl ?_
  refine j_getr' (o2 := 29) (pc' := 9) hC dX0_deedsFor_6 rfl fi_X0_46 gx39 rfl ?_
  refine j_geti' (pc' := 12) hC dX0_deedsFor_9 rfl fi_X0_126 gx29 ?_
  refine j_icmp_ge (tgt := 40) (pc' := 15) hC dX0_deedsFor_12 (by decide) rfl (fun c1 => ?_) (fun c1 => ?_)
  · have h := jit_t c1 h
    obtain ⟨q0, q1⟩ := jinj2 h
    subst q0
    subst q1
    refine j_sub [0, 1, 2, 3] rfl ?_
    exact hK
  · have h := jit_f c1 h
    refine j_iload_n 2 (pc' := 16) hC dX0_deedsFor_15 rfl rfl ?_
    refine j_aload_n 0 (pc' := 17) hC dX0_deedsFor_16 rfl rfl ?_
    refine j_iload_n 3 (pc' := 18) hC dX0_deedsFor_17 rfl rfl ?_
    refine j_iload_n 1 (pc' := 19) hC dX0_deedsFor_18 rfl rfl ?_
    obtain ⟨r2, hc3, h⟩ := jb1_s h
    refine j_callVi [.int x3, .int x1] (pc' := 22) hC dX0_deedsFor_19 rfl (t_X0_hindrance _ _ hc3) gx39 vcl0 cv_X0_129 ⟨⟨Nat.le_of_ble_eq_true rfl, Nat.le_of_ble_eq_true rfl⟩, rfl, Nat.le_of_ble_eq_true rfl⟩ rfl rfl ?_
    obtain ⟨v5, hm7, h⟩ := jlet_s h
    have K6 : jJ Γ GX RX 32 [(0, .ref (jad Γ 39)), (1, .int x1), (2, .int x2), (3, .int x3)] [.int v5, .int x2] M Q := by
      refine j_ior (pc' := 33) hC dX0_deedsFor_32 rfl ?_
      obtain ⟨v9, ev9, h⟩ := jlet_s h
      refine j_istore_n (pc' := 34) hC dX0_deedsFor_33 rfl ev9 (by decide) rfl ?_
      obtain ⟨v10, ev10, h⟩ := jlet_s h
      refine j_iinc' 3 (c := 1) (pc' := 37) hC dX0_deedsFor_34 rfl rfl rfl ev10 (by decide) rfl ?_
      refine j_goto (tgt := 4) (pc' := 0) hC dX0_deedsFor_37 (by decide) ?_
      refine j_sub [2, 3, 1, 0] rfl ?_
      exact ih _ _ _ _ _ _ h hK
    refine j_if_ne (tgt := 31) (pc' := 25) hC dX0_deedsFor_22 (by decide) rfl (fun c8 => ?_) (fun c8 => ?_)
    · have hm7 := jit_f c8 hm7
      refine j_iconst (v := 0) (pc' := 32) hC dX0_deedsFor_31 rfl rfl ?_
      subst hm7
      exact j_sub [0, 1, 2, 3] rfl K6
    · have hm7 := jit_t c8 hm7
      refine j_iconst (v := 1) (pc' := 26) hC dX0_deedsFor_25 rfl rfl ?_
      refine j_iload_n 3 (pc' := 27) hC dX0_deedsFor_26 rfl rfl ?_
      refine j_ishl (pc' := 28) hC dX0_deedsFor_27 rfl ?_
      refine j_goto (tgt := 32) (pc' := 0) hC dX0_deedsFor_28 (by decide) ?_
      subst hm7
      exact j_sub [0, 1, 2, 3] rfl K6
theorem lp_X0_deedsFor_L4 {Γ : jG} (hC : jOK Γ cX0_deedsFor 4 RX0 (some .int) { frames := 5, cells := 0, slots := 0, locals := 111 }) {Q : State → Prop} : ∀ (n : Nat) (x1 : Int32) (x2 : Int32) (x3 : Int32) (M : jM) (e2 : Int32) (e3 : Int32), f_X0_deedsFor_L4 n x1 x2 x3 M = some (e2, e3) → jJ Γ GX RX 40 [(0, .ref (jad Γ 39)), (1, .int x1), (2, .int e2), (3, .int e3)] [] M Q → jJ Γ GX RX 4 [(0, .ref (jad Γ 39)), (1, .int x1), (2, .int x2), (3, .int x3)] [] M Q := by
  intro n
  induction n with
  | zero =>
    intro x1 x2 x3 M e2 e3 h hK
    exact jno h
  | succ n ih =>
    intro x1 x2 x3 M e2 e3 h hK
    exact lp_X0_deedsFor_L4_b hC (f_X0_deedsFor_L4 n) ih x1 x2 x3 M e2 e3 h hK
theorem t_X0_deedsFor (l : Launch) (E : jE) {a1 : Int32} {M : jM} {r : Int32} (h : f_X0_deedsFor a1 M = some r) : jCi l yX0_deedsFor cX0_deedsFor 4 (some .int) 5 111 E RX GX (fun a _ => [.ref (a 39), .int a1]) M r M := by
  refine jCi_of (own := RX0) (by decide) rfl (fun _ _ => Nat.le_of_ble_eq_true rfl) ?_
  intro Γ hC
  show jJ Γ GX RX 0 [(0, .ref (jad Γ 39)), (1, .int a1)] [] M (jQi Γ RX GX r M)
  unfold f_X0_deedsFor at h
  refine j_iconst (v := 0) (pc' := 1) hC dX0_deedsFor_0 rfl rfl ?_
  refine j_istore_n (pc' := 2) hC dX0_deedsFor_1 rfl rfl (by decide) rfl ?_
  refine j_iconst (v := 0) (pc' := 3) hC dX0_deedsFor_2 rfl rfl ?_
  refine j_istore_n (pc' := 4) hC dX0_deedsFor_3 rfl rfl (by decide) rfl ?_
  refine j_sub [2, 3, 1, 0] rfl ?_
  obtain ⟨v1, v2, hm3, h⟩ := jb2_s h
  refine lp_X0_deedsFor_L4 hC  jfu a1 (0 : Int32) (0 : Int32) M v1 v2 hm3 ?_
  refine j_iload_n 2 (pc' := 41) hC dX0_deedsFor_40 rfl rfl ?_
  have q8 := jinj1 h
  subst q8
  exact j_iret hC dX0_deedsFor_41
theorem t_X5_can (l : Launch) (E : jE) {a1 : Int32} {M : jM} {r : Int32} (h : f_X5_can a1 M = some r) : jCi l yX5_can cX5_can 2 (some .int) 6 134 E RX GX (fun a _ => [.ref (a 0), .int a1]) M r M := by
  refine jCi_of (own := RX5) (by decide) rfl (fun _ _ => Nat.le_of_ble_eq_true rfl) ?_
  intro Γ hC
  show jJ Γ GX RX 0 [(0, .ref (jad Γ 0)), (1, .int a1)] [] M (jQi Γ RX GX r M)
  unfold f_X5_can at h
  refine j_aload_n 0 (pc' := 1) hC dX5_can_0 rfl rfl ?_
  refine j_getr' (o2 := 29) (pc' := 4) hC dX5_can_1 rfl fi_X5_31 gx0 rfl ?_
  refine j_iload_n 1 (pc' := 5) hC dX5_can_4 rfl rfl ?_
  obtain ⟨r1, hc2, h⟩ := jb1_s h
  refine j_callVi [.int a1] (pc' := 8) hC dX5_can_5 rfl (t_X2_hasHour _ _ hc2) gx29 vcl2 cv_X5_150 ⟨⟨Nat.le_of_ble_eq_true rfl, Nat.le_of_ble_eq_true rfl⟩, rfl, Nat.le_of_ble_eq_true rfl⟩ rfl rfl ?_
  refine j_if_eq (tgt := 22) (pc' := 11) hC dX5_can_8 (by decide) rfl (fun c3 => ?_) (fun c3 => ?_)
  · have h := jit_t c3 h
    refine j_iconst (v := -1) (pc' := 23) hC dX5_can_22 rfl rfl ?_
    have q8 := jinj1 h
    subst q8
    exact j_iret hC dX5_can_23
  · have h := jit_f c3 h
    refine j_aload_n 0 (pc' := 12) hC dX5_can_11 rfl rfl ?_
    refine j_getr' (o2 := 39) (pc' := 15) hC dX5_can_12 rfl fi_X5_40 gx0 rfl ?_
    refine j_iload_n 1 (pc' := 16) hC dX5_can_15 rfl rfl ?_
    obtain ⟨r4, hc5, h⟩ := jb1_s h
    refine j_callVi [.int a1] (pc' := 19) hC dX5_can_16 rfl (t_X0_deedsFor _ _ hc5) gx39 vcl0 cv_X5_219 ⟨⟨Nat.le_of_ble_eq_true rfl, Nat.le_of_ble_eq_true rfl⟩, rfl, Nat.le_of_ble_eq_true rfl⟩ rfl rfl ?_
    refine j_goto (tgt := 23) (pc' := 0) hC dX5_can_19 (by decide) ?_
    have q8 := jinj1 h
    subst q8
    exact j_iret hC dX5_can_23
theorem t_X5_firstOf (l : Launch) (E : jE) {a1 : Int32} {M : jM} {r : Int32} (h : f_X5_firstOf a1 M = some r) : jCi l yX5_firstOf cX5_firstOf 1 (some .int) 1 20 E RX GX (fun _ _ => [.int a1]) M r M := by
  refine jCi_of (own := RX5) (by decide) rfl (fun _ _ => Nat.le_of_ble_eq_true rfl) ?_
  intro Γ hC
  show jJ Γ GX RX 0 [(0, .int a1)] [] M (jQi Γ RX GX r M)
  unfold f_X5_firstOf at h
  refine j_iload_n 0 (pc' := 1) hC dX5_firstOf_0 rfl rfl ?_
  refine j_if_ne (tgt := 9) (pc' := 4) hC dX5_firstOf_1 (by decide) rfl (fun c1 => ?_) (fun c1 => ?_)
  · have h := jit_f c1 h
    refine j_iload_n 0 (pc' := 10) hC dX5_firstOf_9 rfl rfl ?_
    refine j_iload_n 0 (pc' := 11) hC dX5_firstOf_10 rfl rfl ?_
    refine j_ineg (pc' := 12) hC dX5_firstOf_11 rfl ?_
    refine j_iand (pc' := 13) hC dX5_firstOf_12 rfl ?_
    refine j_iconst (v := 1) (pc' := 14) hC dX5_firstOf_13 rfl rfl ?_
    refine j_isub (pc' := 15) hC dX5_firstOf_14 rfl ?_
    obtain ⟨r2, hc3, h⟩ := jb1_s h
    refine j_callSi [.int ((a1 &&& (-a1)) - (1 : Int32))] (pc' := 18) hC dX5_firstOf_15 rfl (t_J6_bitCount_0f7a4 _ _ hc3) cs_X5_173 ⟨⟨Nat.le_of_ble_eq_true rfl, Nat.le_of_ble_eq_true rfl⟩, rfl, Nat.le_of_ble_eq_true rfl⟩ rfl rfl ?_
    have q8 := jinj1 h
    subst q8
    exact j_iret hC dX5_firstOf_18
  · have h := jit_t c1 h
    refine j_bipush (v := -9) (pc' := 6) hC dX5_firstOf_4 rfl rfl ?_
    refine j_goto (tgt := 18) (pc' := 0) hC dX5_firstOf_6 (by decide) ?_
    have q8 := jinj1 h
    subst q8
    exact j_iret hC dX5_firstOf_18
theorem t_X5_why (l : Launch) (E : jE) {a1 : Int32} {a2 : Int32} {M : jM} {r : Int32} {M' : jM} (h : f_X5_why a1 a2 M = some (r, M')) : jCi l yX5_why cX5_why 4 (some .int) 5 111 E RX GX (fun a _ => [.ref (a 0), .int a1, .int a2]) M r M' := by
  refine jCi_of (own := RX5) (by decide) rfl (fun _ _ => Nat.le_of_ble_eq_true rfl) ?_
  intro Γ hC
  show jJ Γ GX RX 0 [(0, .ref (jad Γ 0)), (1, .int a1), (2, .int a2)] [] M (jQi Γ RX GX r M')
  unfold f_X5_why at h
  refine j_aload_n 0 (pc' := 1) hC dX5_why_0 rfl rfl ?_
  refine j_getr' (o2 := 29) (pc' := 4) hC dX5_why_1 rfl fi_X5_31 gx0 rfl ?_
  refine j_iload_n 1 (pc' := 5) hC dX5_why_4 rfl rfl ?_
  obtain ⟨r1, hc2, h⟩ := jb1_s h
  refine j_callVi [.int a1] (pc' := 8) hC dX5_why_5 rfl (t_X2_hasDeed _ _ hc2) gx29 vcl2 cv_X5_143 ⟨⟨Nat.le_of_ble_eq_true rfl, Nat.le_of_ble_eq_true rfl⟩, rfl, Nat.le_of_ble_eq_true rfl⟩ rfl rfl ?_
  refine j_if_eq (tgt := 22) (pc' := 11) hC dX5_why_8 (by decide) rfl (fun c3 => ?_) (fun c3 => ?_)
  · have h := jit_t c3 h
    refine j_iconst (v := -1) (pc' := 23) hC dX5_why_22 rfl rfl ?_
    obtain ⟨q0, q1⟩ := jinj2 h
    subst q0
    subst q1
    exact j_iret hC dX5_why_23
  · have h := jit_f c3 h
    refine j_aload_n 0 (pc' := 12) hC dX5_why_11 rfl rfl ?_
    refine j_getr' (o2 := 29) (pc' := 15) hC dX5_why_12 rfl fi_X5_31 gx0 rfl ?_
    refine j_iload_n 2 (pc' := 16) hC dX5_why_15 rfl rfl ?_
    obtain ⟨r4, hc5, h⟩ := jb1_s h
    refine j_callVi [.int a2] (pc' := 19) hC dX5_why_16 rfl (t_X2_hasHour _ _ hc5) gx29 vcl2 cv_X5_150 ⟨⟨Nat.le_of_ble_eq_true rfl, Nat.le_of_ble_eq_true rfl⟩, rfl, Nat.le_of_ble_eq_true rfl⟩ rfl rfl ?_
    refine j_if_ne (tgt := 24) (pc' := 22) hC dX5_why_19 (by decide) rfl (fun c6 => ?_) (fun c6 => ?_)
    · have h := jit_f c6 h
      refine j_aload_n 0 (pc' := 25) hC dX5_why_24 rfl rfl ?_
      refine j_getr' (o2 := 39) (pc' := 28) hC dX5_why_25 rfl fi_X5_40 gx0 rfl ?_
      refine j_iload_n 1 (pc' := 29) hC dX5_why_28 rfl rfl ?_
      refine j_iload_n 2 (pc' := 30) hC dX5_why_29 rfl rfl ?_
      obtain ⟨r7, hc8, h⟩ := jb1_s h
      refine j_callVi [.int a1, .int a2] (pc' := 33) hC dX5_why_30 rfl (t_X0_hindrance _ _ hc8) gx39 vcl0 cv_X5_206 ⟨⟨Nat.le_of_ble_eq_true rfl, Nat.le_of_ble_eq_true rfl⟩, rfl, Nat.le_of_ble_eq_true rfl⟩ rfl rfl ?_
      refine j_istore_n (pc' := 34) hC dX5_why_33 rfl rfl (by decide) rfl ?_
      refine j_aload_n 1 (pc' := 35) hC dX5_why_34 rfl rfl ?_
      refine j_iload_n 0 (pc' := 36) hC dX5_why_35 rfl rfl ?_
      refine j_iconst (v := 2) (pc' := 37) hC dX5_why_36 rfl rfl ?_
      obtain ⟨v13, hm15, h⟩ := jb1_s h
      have K14 : jJ Γ GX RX 67 [(0, .ref (jad Γ 0)), (1, .int a1), (2, .int a2), (3, .int r7)] [.int v13, .ref (jad Γ 0)] M (jQi Γ RX GX r M') := by
        obtain ⟨M20, eM20, h⟩ := jlet_s h
        refine j_puti' (pc' := 70) hC dX5_why_67 rfl fp_X5_67 gx0 eM20 ?_
        refine j_iload_n 3 (pc' := 71) hC dX5_why_70 rfl rfl ?_
        obtain ⟨q0, q1⟩ := jinj2 h
        subst q0
        subst q1
        exact j_iret hC dX5_why_71
      refine j_icmp_ne (tgt := 65) (pc' := 40) hC dX5_why_37 (by decide) rfl (fun c16 => ?_) (fun c16 => ?_)
      · have hm15 := jit_f c16 hm15
        refine j_bipush (v := -9) (pc' := 67) hC dX5_why_65 rfl rfl ?_
        have q8 := jinj1 hm15
        subst q8
        exact j_sub [1, 2, 3, 0] rfl K14
      · have hm15 := jit_t c16 hm15
        refine j_aload_n 1 (pc' := 41) hC dX5_why_40 rfl rfl ?_
        refine j_getr' (o2 := 29) (pc' := 44) hC dX5_why_41 rfl fi_X5_31 gx0 rfl ?_
        refine j_getr' (o2 := 32) (pc' := 47) hC dX5_why_44 rfl fi_X5_166 gx29 rfl ?_
        refine j_iload_n 2 (pc' := 48) hC dX5_why_47 rfl rfl ?_
        obtain ⟨g17, hm15⟩ := jg_s hm15
        refine j_iald (pc' := 49) hC dX5_why_48 rfl gx32 g17 ?_
        refine j_aload_n 1 (pc' := 50) hC dX5_why_49 rfl rfl ?_
        refine j_getr' (o2 := 39) (pc' := 53) hC dX5_why_50 rfl fi_X5_40 gx0 rfl ?_
        refine j_geti' (pc' := 56) hC dX5_why_53 rfl fi_X5_178 gx39 ?_
        refine j_iconst (v := -1) (pc' := 57) hC dX5_why_56 rfl rfl ?_
        refine j_ixor (pc' := 58) hC dX5_why_57 rfl ?_
        refine j_iand (pc' := 59) hC dX5_why_58 rfl ?_
        obtain ⟨r18, hc19, hm15⟩ := jb1_s hm15
        refine j_callSi [.int ((gi M 32 a1.toNatClampNeg) &&& ((gi M 39 10) ^^^ (-1 : Int32)))] (pc' := 62) hC dX5_why_59 rfl (t_X5_firstOf _ _ hc19) cs_X5_222 ⟨⟨Nat.le_of_ble_eq_true rfl, Nat.le_of_ble_eq_true rfl⟩, rfl, Nat.le_of_ble_eq_true rfl⟩ rfl rfl ?_
        refine j_goto (tgt := 67) (pc' := 0) hC dX5_why_62 (by decide) ?_
        have q8 := jinj1 hm15
        subst q8
        exact j_sub [1, 2, 3, 0] rfl K14
    · have h := jit_t c6 h
      refine j_iconst (v := -1) (pc' := 23) hC dX5_why_22 rfl rfl ?_
      obtain ⟨q0, q1⟩ := jinj2 h
      subst q0
      subst q1
      exact j_iret hC dX5_why_23
theorem t_X5_opens (l : Launch) (E : jE) {a1 : Int32} {M : jM} {r : Int32} {M' : jM} (h : f_X5_opens a1 M = some (r, M')) : jCi l yX5_opens cX5_opens 2 (some .int) 2 45 E RX GX (fun a _ => [.ref (a 0), .int a1]) M r M' := by
  refine jCi_of (own := RX5) (by decide) rfl (fun _ _ => Nat.le_of_ble_eq_true rfl) ?_
  intro Γ hC
  show jJ Γ GX RX 0 [(0, .ref (jad Γ 0)), (1, .int a1)] [] M (jQi Γ RX GX r M')
  unfold f_X5_opens at h
  refine j_aload_n 0 (pc' := 1) hC dX5_opens_0 rfl rfl ?_
  refine j_getr' (o2 := 29) (pc' := 4) hC dX5_opens_1 rfl fi_X5_31 gx0 rfl ?_
  refine j_iload_n 1 (pc' := 5) hC dX5_opens_4 rfl rfl ?_
  obtain ⟨r1, hc2, h⟩ := jb1_s h
  refine j_callVi [.int a1] (pc' := 8) hC dX5_opens_5 rfl (t_X2_hasDeed _ _ hc2) gx29 vcl2 cv_X5_143 ⟨⟨Nat.le_of_ble_eq_true rfl, Nat.le_of_ble_eq_true rfl⟩, rfl, Nat.le_of_ble_eq_true rfl⟩ rfl rfl ?_
  refine j_if_ne (tgt := 13) (pc' := 11) hC dX5_opens_8 (by decide) rfl (fun c3 => ?_) (fun c3 => ?_)
  · have h := jit_f c3 h
    refine j_aload_n 0 (pc' := 14) hC dX5_opens_13 rfl rfl ?_
    refine j_aload_n 0 (pc' := 15) hC dX5_opens_14 rfl rfl ?_
    refine j_getr' (o2 := 29) (pc' := 18) hC dX5_opens_15 rfl fi_X5_31 gx0 rfl ?_
    refine j_iload_n 1 (pc' := 19) hC dX5_opens_18 rfl rfl ?_
    refine j_aload_n 0 (pc' := 20) hC dX5_opens_19 rfl rfl ?_
    refine j_getr' (o2 := 29) (pc' := 23) hC dX5_opens_20 rfl fi_X5_31 gx0 rfl ?_
    refine j_getr' (o2 := 33) (pc' := 26) hC dX5_opens_23 rfl fi_X5_225 gx29 rfl ?_
    obtain ⟨r4, hc5, h⟩ := jb1_s h
    refine j_callVi [.int a1, .ref (jad Γ 33)] (pc' := 29) hC dX5_opens_26 rfl (t_X2_neededBy _ _ gx33 hc5) gx29 vcl2 cv_X5_169 ⟨⟨Nat.le_of_ble_eq_true rfl, Nat.le_of_ble_eq_true rfl⟩, rfl, Nat.le_of_ble_eq_true rfl⟩ rfl rfl ?_
    obtain ⟨M6, eM6, h⟩ := jlet_s h
    refine j_puti' (pc' := 32) hC dX5_opens_29 rfl fp_X5_67 gx0 eM6 ?_
    refine j_aload_n 0 (pc' := 33) hC dX5_opens_32 rfl rfl ?_
    refine j_geti' (pc' := 36) hC dX5_opens_33 rfl fi_X5_67 gx0 ?_
    obtain ⟨r7, hc8, h⟩ := jb1_s h
    refine j_callSi [.int (gi M6 0 10)] (pc' := 39) hC dX5_opens_36 rfl (t_J6_bitCount_0f7a4 _ _ hc8) cs_X5_173 ⟨⟨Nat.le_of_ble_eq_true rfl, Nat.le_of_ble_eq_true rfl⟩, rfl, Nat.le_of_ble_eq_true rfl⟩ rfl rfl ?_
    obtain ⟨q0, q1⟩ := jinj2 h
    subst q0
    subst q1
    exact j_iret hC dX5_opens_39
  · have h := jit_t c3 h
    refine j_iconst (v := -1) (pc' := 12) hC dX5_opens_11 rfl rfl ?_
    obtain ⟨q0, q1⟩ := jinj2 h
    subst q0
    subst q1
    exact j_iret hC dX5_opens_12
theorem lp_X5_late_L19_b {Γ : jG} (hC : jOK Γ cX5_late 4 RX5 (some .int) { frames := 2, cells := 0, slots := 0, locals := 42 }) {Q : State → Prop} (rec : Int32 → Int32 → Int32 → jM → Option (Int32 × Int32 × Int32)) (ih : ∀ (x1 : Int32) (x2 : Int32) (x3 : Int32) (M : jM) (e1 : Int32) (e2 : Int32) (e3 : Int32), rec x1 x2 x3 M = some (e1, e2, e3) → jJ Γ GX RX 68 [(0, .ref (jad Γ 0)), (1, .int e1), (2, .int e2), (3, .int e3)] [] M Q → jJ Γ GX RX 19 [(0, .ref (jad Γ 0)), (1, .int x1), (2, .int x2), (3, .int x3)] [] M Q) (x1 : Int32) (x2 : Int32) (x3 : Int32) (M : jM) (e1 : Int32) (e2 : Int32) (e3 : Int32) (h : f_X5_late_L19_b rec x1 x2 x3 M = some (e1, e2, e3)) (hK : jJ Γ GX RX 68 [(0, .ref (jad Γ 0)), (1, .int e1), (2, .int e2), (3, .int e3)] [] M Q) : jJ Γ GX RX 19 [(0, .ref (jad Γ 0)), (1, .int x1), (2, .int x2), (3, .int x3)] [] M Q := by
  unfold f_X5_late_L19_b at h
  refine j_iload_n 3 (pc' := 20) hC dX5_late_19 rfl rfl ?_
  refine j_aload_n 0 (pc' := 21) hC dX5_late_20 rfl rfl ?_
  refine j_getr' (o2 := 29) (pc' := 24) hC dX5_late_21 rfl fi_X5_31 gx0 rfl ?_
  refine j_geti' (pc' := 27) hC dX5_late_24 rfl fi_X5_228 gx29 ?_
  refine j_icmp_ge (tgt := 68) (pc' := 30) hC dX5_late_27 (by decide) rfl (fun c1 => ?_) (fun c1 => ?_)
  · have h := jit_t c1 h
    obtain ⟨q0, q1, q2⟩ := jinj3 h
    subst q0
    subst q1
    subst q2
    refine j_sub [0, 1, 2, 3] rfl ?_
    exact hK
  · have h := jit_f c1 h
    refine j_iload_n 1 (pc' := 31) hC dX5_late_30 rfl rfl ?_
    refine j_aload_n 0 (pc' := 32) hC dX5_late_31 rfl rfl ?_
    refine j_getr' (o2 := 39) (pc' := 35) hC dX5_late_32 rfl fi_X5_40 gx0 rfl ?_
    refine j_iload_n 3 (pc' := 36) hC dX5_late_35 rfl rfl ?_
    obtain ⟨r2, hc3, h⟩ := jb1_s h
    refine j_callVi [.int x3] (pc' := 39) hC dX5_late_36 rfl (t_X0_comingDay _ _ hc3) gx39 vcl0 cv_X5_231 ⟨⟨Nat.le_of_ble_eq_true rfl, Nat.le_of_ble_eq_true rfl⟩, rfl, Nat.le_of_ble_eq_true rfl⟩ rfl rfl ?_
    refine j_mmax (pc' := 42) hC dX5_late_39 rfl cm_X5_234 ⟨Nat.le_of_ble_eq_true rfl, Nat.le_of_ble_eq_true rfl⟩ ?_
    obtain ⟨v4, ev4, h⟩ := jlet_s h
    refine j_istore_n (pc' := 43) hC dX5_late_42 rfl ev4 (by decide) rfl ?_
    refine j_iload_n 2 (pc' := 44) hC dX5_late_43 rfl rfl ?_
    refine j_aload_n 1 (pc' := 45) hC dX5_late_44 rfl rfl ?_
    refine j_getr' (o2 := 39) (pc' := 48) hC dX5_late_45 rfl fi_X5_40 gx0 rfl ?_
    refine j_iload_n 3 (pc' := 49) hC dX5_late_48 rfl rfl ?_
    obtain ⟨r5, hc6, h⟩ := jb1_s h
    refine j_callVi [.int x3] (pc' := 52) hC dX5_late_49 rfl (t_X0_whereIs _ _ hc6) gx39 vcl0 cv_X5_203 ⟨⟨Nat.le_of_ble_eq_true rfl, Nat.le_of_ble_eq_true rfl⟩, rfl, Nat.le_of_ble_eq_true rfl⟩ rfl rfl ?_
    obtain ⟨v8, hm10, h⟩ := jlet_s h
    have K9 : jJ Γ GX RX 60 [(0, .ref (jad Γ 0)), (1, .int v4), (2, .int x2), (3, .int x3)] [.int v8, .int x2] M Q := by
      refine j_iadd (pc' := 61) hC dX5_late_60 rfl ?_
      obtain ⟨v12, ev12, h⟩ := jlet_s h
      refine j_istore_n (pc' := 62) hC dX5_late_61 rfl ev12 (by decide) rfl ?_
      obtain ⟨v13, ev13, h⟩ := jlet_s h
      refine j_iinc' 3 (c := 1) (pc' := 65) hC dX5_late_62 rfl rfl rfl ev13 (by decide) rfl ?_
      refine j_goto (tgt := 19) (pc' := 0) hC dX5_late_65 (by decide) ?_
      refine j_sub [2, 3, 1, 0] rfl ?_
      exact ih _ _ _ _ _ _ _ h hK
    refine j_if_ne (tgt := 59) (pc' := 55) hC dX5_late_52 (by decide) rfl (fun c11 => ?_) (fun c11 => ?_)
    · have hm10 := jit_f c11 hm10
      refine j_iconst (v := 0) (pc' := 60) hC dX5_late_59 rfl rfl ?_
      subst hm10
      exact j_sub [1, 0, 2, 3] rfl K9
    · have hm10 := jit_t c11 hm10
      refine j_iconst (v := 1) (pc' := 56) hC dX5_late_55 rfl rfl ?_
      refine j_goto (tgt := 60) (pc' := 0) hC dX5_late_56 (by decide) ?_
      subst hm10
      exact j_sub [1, 0, 2, 3] rfl K9
theorem lp_X5_late_L19 {Γ : jG} (hC : jOK Γ cX5_late 4 RX5 (some .int) { frames := 2, cells := 0, slots := 0, locals := 42 }) {Q : State → Prop} : ∀ (n : Nat) (x1 : Int32) (x2 : Int32) (x3 : Int32) (M : jM) (e1 : Int32) (e2 : Int32) (e3 : Int32), f_X5_late_L19 n x1 x2 x3 M = some (e1, e2, e3) → jJ Γ GX RX 68 [(0, .ref (jad Γ 0)), (1, .int e1), (2, .int e2), (3, .int e3)] [] M Q → jJ Γ GX RX 19 [(0, .ref (jad Γ 0)), (1, .int x1), (2, .int x2), (3, .int x3)] [] M Q := by
  intro n
  induction n with
  | zero =>
    intro x1 x2 x3 M e1 e2 e3 h hK
    exact jno h
  | succ n ih =>
    intro x1 x2 x3 M e1 e2 e3 h hK
    exact lp_X5_late_L19_b hC (f_X5_late_L19 n) ih x1 x2 x3 M e1 e2 e3 h hK
theorem t_X5_late (l : Launch) (E : jE) {M : jM} {r : Int32} {M' : jM} (h : f_X5_late M = some (r, M')) : jCi l yX5_late cX5_late 4 (some .int) 2 42 E RX GX (fun a _ => [.ref (a 0)]) M r M' := by
  refine jCi_of (own := RX5) (by decide) rfl (fun _ _ => Nat.le_of_ble_eq_true rfl) ?_
  intro Γ hC
  show jJ Γ GX RX 0 [(0, .ref (jad Γ 0))] [] M (jQi Γ RX GX r M')
  unfold f_X5_late at h
  refine j_aload_n 0 (pc' := 1) hC dX5_late_0 rfl rfl ?_
  refine j_getr' (o2 := 29) (pc' := 4) hC dX5_late_1 rfl fi_X5_31 gx0 rfl ?_
  refine j_geti' (pc' := 7) hC dX5_late_4 rfl fi_X5_140 gx29 ?_
  refine j_if_ne (tgt := 13) (pc' := 10) hC dX5_late_7 (by decide) rfl (fun c1 => ?_) (fun c1 => ?_)
  · have h := jit_f c1 h
    refine j_iconst (v := 0) (pc' := 14) hC dX5_late_13 rfl rfl ?_
    refine j_istore_n (pc' := 15) hC dX5_late_14 rfl rfl (by decide) rfl ?_
    refine j_iconst (v := 0) (pc' := 16) hC dX5_late_15 rfl rfl ?_
    refine j_istore_n (pc' := 17) hC dX5_late_16 rfl rfl (by decide) rfl ?_
    refine j_iconst (v := 0) (pc' := 18) hC dX5_late_17 rfl rfl ?_
    refine j_istore_n (pc' := 19) hC dX5_late_18 rfl rfl (by decide) rfl ?_
    refine j_sub [3, 2, 1, 0] rfl ?_
    obtain ⟨v2, v3, v4, hm5, h⟩ := jb3_s h
    refine lp_X5_late_L19 hC  jfu (0 : Int32) (0 : Int32) (0 : Int32) M v2 v3 v4 hm5 ?_
    refine j_aload_n 0 (pc' := 69) hC dX5_late_68 rfl rfl ?_
    refine j_iload_n 2 (pc' := 70) hC dX5_late_69 rfl rfl ?_
    obtain ⟨M6, eM6, h⟩ := jlet_s h
    refine j_puti' (pc' := 73) hC dX5_late_70 rfl fp_X5_67 gx0 eM6 ?_
    refine j_iload_n 1 (pc' := 74) hC dX5_late_73 rfl rfl ?_
    obtain ⟨q0, q1⟩ := jinj2 h
    subst q0
    subst q1
    exact j_iret hC dX5_late_74
  · have h := jit_t c1 h
    refine j_bipush (v := -4) (pc' := 12) hC dX5_late_10 rfl rfl ?_
    obtain ⟨q0, q1⟩ := jinj2 h
    subst q0
    subst q1
    exact j_iret hC dX5_late_12
theorem t_X5_refusalInHouse (l : Launch) (E : jE) {a1 : Int32} {M : jM} {r : Int32} {M' : jM} (h : f_X5_refusalInHouse a1 M = some (r, M')) : jCi l yX5_refusalInHouse cX5_refusalInHouse 2 (some .int) 2 43 E RX GX (fun a _ => [.ref (a 0), .int a1]) M r M' := by
  refine jCi_of (own := RX5) (by decide) rfl (fun _ _ => Nat.le_of_ble_eq_true rfl) ?_
  intro Γ hC
  show jJ Γ GX RX 0 [(0, .ref (jad Γ 0)), (1, .int a1)] [] M (jQi Γ RX GX r M')
  unfold f_X5_refusalInHouse at h
  refine j_aload_n 0 (pc' := 1) hC dX5_refusalInHouse_0 rfl rfl ?_
  refine j_getr' (o2 := 1) (pc' := 4) hC dX5_refusalInHouse_1 rfl fi_X5_14 gx0 rfl ?_
  refine j_iload_n 1 (pc' := 5) hC dX5_refusalInHouse_4 rfl rfl ?_
  obtain ⟨r1, hc2, h⟩ := jb1_s h
  refine j_callVi [.int a1] (pc' := 8) hC dX5_refusalInHouse_5 rfl (t_X4_knowsa _ _ hc2) gx1 vcl4 cv_X5_77 ⟨⟨Nat.le_of_ble_eq_true rfl, Nat.le_of_ble_eq_true rfl⟩, rfl, Nat.le_of_ble_eq_true rfl⟩ rfl rfl ?_
  refine j_if_eq (tgt := 24) (pc' := 11) hC dX5_refusalInHouse_8 (by decide) rfl (fun c3 => ?_) (fun c3 => ?_)
  · have h := jit_t c3 h
    refine j_aload_n 0 (pc' := 25) hC dX5_refusalInHouse_24 rfl rfl ?_
    refine j_aload_n 0 (pc' := 26) hC dX5_refusalInHouse_25 rfl rfl ?_
    refine j_getr' (o2 := 1) (pc' := 29) hC dX5_refusalInHouse_26 rfl fi_X5_14 gx0 rfl ?_
    refine j_iload_n 1 (pc' := 30) hC dX5_refusalInHouse_29 rfl rfl ?_
    obtain ⟨r4, M5, hc6, h⟩ := jb2_s h
    refine j_callVi [.ref (jad Γ 1), .int a1] (pc' := 33) hC dX5_refusalInHouse_30 rfl (t_X5_refusalOfa _ _ hc6) gx0 vcl5 cv_X5_104 ⟨⟨Nat.le_of_ble_eq_true rfl, Nat.le_of_ble_eq_true rfl⟩, rfl, Nat.le_of_ble_eq_true rfl⟩ rfl rfl ?_
    obtain ⟨q0, q1⟩ := jinj2 h
    subst q0
    subst q1
    exact j_iret hC dX5_refusalInHouse_33
  · have h := jit_f c3 h
    refine j_aload_n 0 (pc' := 12) hC dX5_refusalInHouse_11 rfl rfl ?_
    refine j_getr' (o2 := 29) (pc' := 15) hC dX5_refusalInHouse_12 rfl fi_X5_31 gx0 rfl ?_
    refine j_geti' (pc' := 18) hC dX5_refusalInHouse_15 rfl fi_X5_140 gx29 ?_
    refine j_if_ne (tgt := 24) (pc' := 21) hC dX5_refusalInHouse_18 (by decide) rfl (fun c7 => ?_) (fun c7 => ?_)
    · have h := jit_f c7 h
      refine j_aload_n 0 (pc' := 25) hC dX5_refusalInHouse_24 rfl rfl ?_
      refine j_aload_n 0 (pc' := 26) hC dX5_refusalInHouse_25 rfl rfl ?_
      refine j_getr' (o2 := 1) (pc' := 29) hC dX5_refusalInHouse_26 rfl fi_X5_14 gx0 rfl ?_
      refine j_iload_n 1 (pc' := 30) hC dX5_refusalInHouse_29 rfl rfl ?_
      obtain ⟨r8, M9, hc10, h⟩ := jb2_s h
      refine j_callVi [.ref (jad Γ 1), .int a1] (pc' := 33) hC dX5_refusalInHouse_30 rfl (t_X5_refusalOfa _ _ hc10) gx0 vcl5 cv_X5_104 ⟨⟨Nat.le_of_ble_eq_true rfl, Nat.le_of_ble_eq_true rfl⟩, rfl, Nat.le_of_ble_eq_true rfl⟩ rfl rfl ?_
      obtain ⟨q0, q1⟩ := jinj2 h
      subst q0
      subst q1
      exact j_iret hC dX5_refusalInHouse_33
    · have h := jit_t c7 h
      refine j_bipush (v := -4) (pc' := 23) hC dX5_refusalInHouse_21 rfl rfl ?_
      obtain ⟨q0, q1⟩ := jinj2 h
      subst q0
      subst q1
      exact j_iret hC dX5_refusalInHouse_23
theorem lp_X5_areAllPairs_L2_b {Γ : jG} (hC : jOK Γ cX5_areAllPairs 5 RX5 (some .boolean) { frames := 1, cells := 0, slots := 0, locals := 21 }) {Q : State → Prop} (o1 : Nat) (n1 : Nat) (ho1 : GX[o1]? = some (0, n1)) (rec : Int32 → Int32 → jM → Option ((Int32) ⊕ (Int32))) (ih : ∀ (x2 : Int32) (x3 : Int32) (M : jM) (res : (Int32) ⊕ (Int32)), rec x2 x3 M = some res → (∀ (r : Int32), res = .inl r → Q = jQi Γ RX GX r M) → (∀ (e3 : Int32), res = .inr e3 → jJ Γ GX RX 56 [(0, .ref (jad Γ 0)), (1, .ref (jad Γ o1)), (2, .int x2), (3, .int e3)] [] M Q) → jJ Γ GX RX 2 [(0, .ref (jad Γ 0)), (1, .ref (jad Γ o1)), (2, .int x2), (3, .int x3)] [] M Q) (x2 : Int32) (x3 : Int32) (M : jM) (res : (Int32) ⊕ (Int32)) (h : f_X5_areAllPairs_L2_b o1 n1 rec x2 x3 M = some res) (hQ : ∀ (r : Int32), res = .inl r → Q = jQi Γ RX GX r M) (hK : ∀ (e3 : Int32), res = .inr e3 → jJ Γ GX RX 56 [(0, .ref (jad Γ 0)), (1, .ref (jad Γ o1)), (2, .int x2), (3, .int e3)] [] M Q) : jJ Γ GX RX 2 [(0, .ref (jad Γ 0)), (1, .ref (jad Γ o1)), (2, .int x2), (3, .int x3)] [] M Q := by
  unfold f_X5_areAllPairs_L2_b at h
  refine j_iload_n 3 (pc' := 3) hC dX5_areAllPairs_2 rfl rfl ?_
  refine j_iconst (v := 1) (pc' := 4) hC dX5_areAllPairs_3 rfl rfl ?_
  refine j_iadd (pc' := 5) hC dX5_areAllPairs_4 rfl ?_
  refine j_iload_n 2 (pc' := 6) hC dX5_areAllPairs_5 rfl rfl ?_
  refine j_icmp_ge (tgt := 56) (pc' := 9) hC dX5_areAllPairs_6 (by decide) rfl (fun c1 => ?_) (fun c1 => ?_)
  · have h := jit_t c1 h
    have q8 := jinj1 h
    subst q8
    refine j_sub [0, 1, 2, 3] rfl ?_
    exact hK _ rfl
  · have h := jit_f c1 h
    refine j_aload_n 1 (pc' := 10) hC dX5_areAllPairs_9 rfl rfl ?_
    refine j_iload_n 3 (pc' := 11) hC dX5_areAllPairs_10 rfl rfl ?_
    refine j_iconst (v := 1) (pc' := 12) hC dX5_areAllPairs_11 rfl rfl ?_
    refine j_iadd (pc' := 13) hC dX5_areAllPairs_12 rfl ?_
    obtain ⟨g2, h⟩ := jg_s h
    refine j_iald (pc' := 14) hC dX5_areAllPairs_13 rfl ho1 g2 ?_
    obtain ⟨v3, ev3, h⟩ := jlet_s h
    refine j_istore (pc' := 16) hC dX5_areAllPairs_14 rfl ev3 (by decide) rfl ?_
    refine j_aload_n 1 (pc' := 17) hC dX5_areAllPairs_16 rfl rfl ?_
    refine j_getr' (o2 := 29) (pc' := 20) hC dX5_areAllPairs_17 rfl fi_X5_31 gx0 rfl ?_
    refine j_aload_n 2 (pc' := 21) hC dX5_areAllPairs_20 rfl rfl ?_
    refine j_iload_n 4 (pc' := 22) hC dX5_areAllPairs_21 rfl rfl ?_
    obtain ⟨g4, h⟩ := jg_s h
    refine j_iald (pc' := 23) hC dX5_areAllPairs_22 rfl ho1 g4 ?_
    obtain ⟨r5, hc6, h⟩ := jb1_s h
    refine j_callVi [.int (gi M o1 x3.toNatClampNeg)] (pc' := 26) hC dX5_areAllPairs_23 rfl (t_X2_hasHour _ _ hc6) gx29 vcl2 cv_X5_150 ⟨⟨Nat.le_of_ble_eq_true rfl, Nat.le_of_ble_eq_true rfl⟩, rfl, Nat.le_of_ble_eq_true rfl⟩ rfl rfl ?_
    refine j_if_eq (tgt := 48) (pc' := 29) hC dX5_areAllPairs_26 (by decide) rfl (fun c7 => ?_) (fun c7 => ?_)
    · have h := jit_t c7 h
      refine j_iconst (v := 0) (pc' := 49) hC dX5_areAllPairs_48 rfl rfl ?_
      have q8 := jinj1 h
      subst q8
      rw [hQ _ rfl]
      exact j_zret hC dX5_areAllPairs_49 (by decide)
    · have h := jit_f c7 h
      refine j_iload 0 (pc' := 31) hC dX5_areAllPairs_29 rfl rfl ?_
      refine j_bipush (v := -9) (pc' := 33) hC dX5_areAllPairs_31 rfl rfl ?_
      refine j_icmp_eq (tgt := 50) (pc' := 36) hC dX5_areAllPairs_33 (by decide) rfl (fun c8 => ?_) (fun c8 => ?_)
      · have h := jit_t c8 h
        obtain ⟨v9, ev9, h⟩ := jlet_s h
        refine j_iinc' 4 (c := 2) (pc' := 53) hC dX5_areAllPairs_50 rfl rfl rfl ev9 (by decide) rfl ?_
        refine j_goto (tgt := 2) (pc' := 0) hC dX5_areAllPairs_53 (by decide) ?_
        refine j_sub [2, 3, 4, 0] rfl ?_
        exact ih _ _ _ res h hQ hK
      · have h := jit_f c8 h
        refine j_aload_n 1 (pc' := 37) hC dX5_areAllPairs_36 rfl rfl ?_
        refine j_getr' (o2 := 29) (pc' := 40) hC dX5_areAllPairs_37 rfl fi_X5_31 gx0 rfl ?_
        refine j_iload 0 (pc' := 42) hC dX5_areAllPairs_40 rfl rfl ?_
        obtain ⟨r10, hc11, h⟩ := jb1_s h
        refine j_callVi [.int v3] (pc' := 45) hC dX5_areAllPairs_42 rfl (t_X2_hasDeed _ _ hc11) gx29 vcl2 cv_X5_143 ⟨⟨Nat.le_of_ble_eq_true rfl, Nat.le_of_ble_eq_true rfl⟩, rfl, Nat.le_of_ble_eq_true rfl⟩ rfl rfl ?_
        refine j_if_ne (tgt := 50) (pc' := 48) hC dX5_areAllPairs_45 (by decide) rfl (fun c12 => ?_) (fun c12 => ?_)
        · have h := jit_f c12 h
          obtain ⟨v13, ev13, h⟩ := jlet_s h
          refine j_iinc' 4 (c := 2) (pc' := 53) hC dX5_areAllPairs_50 rfl rfl rfl ev13 (by decide) rfl ?_
          refine j_goto (tgt := 2) (pc' := 0) hC dX5_areAllPairs_53 (by decide) ?_
          refine j_sub [2, 3, 4, 0] rfl ?_
          exact ih _ _ _ res h hQ hK
        · have h := jit_t c12 h
          refine j_iconst (v := 0) (pc' := 49) hC dX5_areAllPairs_48 rfl rfl ?_
          have q8 := jinj1 h
          subst q8
          rw [hQ _ rfl]
          exact j_zret hC dX5_areAllPairs_49 (by decide)
theorem lp_X5_areAllPairs_L2 {Γ : jG} (hC : jOK Γ cX5_areAllPairs 5 RX5 (some .boolean) { frames := 1, cells := 0, slots := 0, locals := 21 }) {Q : State → Prop} (o1 : Nat) (n1 : Nat) (ho1 : GX[o1]? = some (0, n1)) : ∀ (n : Nat) (x2 : Int32) (x3 : Int32) (M : jM) (res : (Int32) ⊕ (Int32)), f_X5_areAllPairs_L2 o1 n1 n x2 x3 M = some res → (∀ (r : Int32), res = .inl r → Q = jQi Γ RX GX r M) → (∀ (e3 : Int32), res = .inr e3 → jJ Γ GX RX 56 [(0, .ref (jad Γ 0)), (1, .ref (jad Γ o1)), (2, .int x2), (3, .int e3)] [] M Q) → jJ Γ GX RX 2 [(0, .ref (jad Γ 0)), (1, .ref (jad Γ o1)), (2, .int x2), (3, .int x3)] [] M Q := by
  intro n
  induction n with
  | zero =>
    intro x2 x3 M res h hQ hK
    exact jno h
  | succ n ih =>
    intro x2 x3 M res h hQ hK
    exact lp_X5_areAllPairs_L2_b hC o1 n1 ho1 (f_X5_areAllPairs_L2 o1 n1 n) ih x2 x3 M res h hQ hK
theorem t_X5_areAllPairs (l : Launch) (E : jE) {o1 : Nat} {n1 : Nat} {a2 : Int32} (ho1 : GX[o1]? = some (0, n1)) {M : jM} {r : Int32} (h : f_X5_areAllPairs o1 n1 a2 M = some r) : jCi l yX5_areAllPairs cX5_areAllPairs 5 (some .boolean) 1 21 E RX GX (fun a _ => [.ref (a 0), .ref (a o1), .int a2]) M r M := by
  refine jCi_of (own := RX5) (by decide) rfl (fun _ _ => Nat.le_of_ble_eq_true rfl) ?_
  intro Γ hC
  show jJ Γ GX RX 0 [(0, .ref (jad Γ 0)), (1, .ref (jad Γ o1)), (2, .int a2)] [] M (jQi Γ RX GX r M)
  unfold f_X5_areAllPairs at h
  refine j_iconst (v := 0) (pc' := 1) hC dX5_areAllPairs_0 rfl rfl ?_
  refine j_istore_n (pc' := 2) hC dX5_areAllPairs_1 rfl rfl (by decide) rfl ?_
  refine j_sub [1, 2, 3, 0] rfl ?_
  rcases jr1_s h with hm2 | ⟨v1, hm2, h⟩
  · exact lp_X5_areAllPairs_L2 hC o1 n1 ho1 jfu a2 (0 : Int32) M _ hm2 (fun _ e => by cases e; rfl) (fun _ e => by cases e)
  · refine lp_X5_areAllPairs_L2 hC o1 n1 ho1 jfu a2 (0 : Int32) M _ hm2 (fun _ e => by cases e) (fun _ e => ?_)
    cases e
    refine j_iconst (v := 1) (pc' := 57) hC dX5_areAllPairs_56 rfl rfl ?_
    have q8 := jinj1 h
    subst q8
    exact j_zret hC dX5_areAllPairs_57 (by decide)
theorem t_X1_start (l : Launch) (E : jE) {a2 : Int32} {M : jM} {M' : jM} (h : f_X1_start a2 M = some M') : jCv l yX1_start cX1_start 3 (none) 1 24 E RX GX (fun a _ => [.ref (a 65), .ref (a 39), .int a2]) M M' := by
  refine jCv_of (own := RX1) (by decide) rfl (fun _ _ => Nat.le_of_ble_eq_true rfl) ?_
  intro Γ hC
  show jJ Γ GX RX 0 [(0, .ref (jad Γ 65)), (1, .ref (jad Γ 39)), (2, .int a2)] [] M (jQv Γ RX GX M')
  unfold f_X1_start at h
  refine j_aload_n 0 (pc' := 1) hC dX1_start_0 rfl rfl ?_
  refine j_iload_n 2 (pc' := 2) hC dX1_start_1 rfl rfl ?_
  obtain ⟨M1, eM1, h⟩ := jlet_s h
  refine j_puti' (pc' := 5) hC dX1_start_2 rfl fp_X1_18 gx65 eM1 ?_
  refine j_aload_n 0 (pc' := 6) hC dX1_start_5 rfl rfl ?_
  refine j_iconst (v := 0) (pc' := 7) hC dX1_start_6 rfl rfl ?_
  obtain ⟨M2, eM2, h⟩ := jlet_s h
  refine j_puti' (pc' := 10) hC dX1_start_7 rfl fp_X1_22 gx65 eM2 ?_
  refine j_aload_n 0 (pc' := 11) hC dX1_start_10 rfl rfl ?_
  refine j_aload_n 1 (pc' := 12) hC dX1_start_11 rfl rfl ?_
  refine j_geti' (pc' := 15) hC dX1_start_12 rfl fi_X1_35 gx39 ?_
  refine j_iconst (v := 2) (pc' := 16) hC dX1_start_15 rfl rfl ?_
  refine j_mmin (pc' := 19) hC dX1_start_16 rfl cm_X1_40 ⟨Nat.le_of_ble_eq_true rfl, Nat.le_of_ble_eq_true rfl⟩ ?_
  obtain ⟨M3, eM3, h⟩ := jlet_s h
  refine j_puti' (pc' := 22) hC dX1_start_19 rfl fp_X1_25 gx65 eM3 ?_
  refine j_aload_n 0 (pc' := 23) hC dX1_start_22 rfl rfl ?_
  refine j_aload_n 1 (pc' := 24) hC dX1_start_23 rfl rfl ?_
  refine j_geti' (pc' := 27) hC dX1_start_24 rfl fi_X1_46 gx39 ?_
  obtain ⟨M4, eM4, h⟩ := jlet_s h
  refine j_puti' (pc' := 30) hC dX1_start_27 rfl fp_X1_28 gx65 eM4 ?_
  have q8 := jinj1 h
  subst q8
  exact j_vret hC dX1_start_30
theorem t_X1_fits (l : Launch) (E : jE) {a1 : Int32} {a2 : Int32} {M : jM} {r : Int32} (h : f_X1_fits a1 a2 M = some r) : jCi l yX1_fits cX1_fits 3 (some .boolean) 4 89 E RX GX (fun a _ => [.ref (a 65), .int a1, .int a2]) M r M := by
  refine jCi_of (own := RX1) (by decide) rfl (fun _ _ => Nat.le_of_ble_eq_true rfl) ?_
  intro Γ hC
  show jJ Γ GX RX 0 [(0, .ref (jad Γ 65)), (1, .int a1), (2, .int a2)] [] M (jQi Γ RX GX r M)
  unfold f_X1_fits at h
  refine j_aload_n 0 (pc' := 1) hC dX1_fits_0 rfl rfl ?_
  refine j_geti' (pc' := 4) hC dX1_fits_1 rfl fi_X1_18 gx65 ?_
  refine j_aload_n 0 (pc' := 5) hC dX1_fits_4 rfl rfl ?_
  refine j_geti' (pc' := 8) hC dX1_fits_5 rfl fi_X1_22 gx65 ?_
  refine j_iconst (v := -1) (pc' := 9) hC dX1_fits_8 rfl rfl ?_
  refine j_ixor (pc' := 10) hC dX1_fits_9 rfl ?_
  refine j_iand (pc' := 11) hC dX1_fits_10 rfl ?_
  refine j_iload_n 1 (pc' := 12) hC dX1_fits_11 rfl rfl ?_
  obtain ⟨r1, hc2, h⟩ := jb1_s h
  refine j_callNi [.int ((gi M 65 3) &&& ((gi M 65 4) ^^^ (-1 : Int32))), .int a1] (pc' := 15) hC dX1_fits_12 rfl (t_X5_isIn _ _ hc2) cn_X1_55 ⟨⟨Nat.le_of_ble_eq_true rfl, Nat.le_of_ble_eq_true rfl⟩, rfl, Nat.le_of_ble_eq_true rfl⟩ rfl rfl ?_
  refine j_if_eq (tgt := 48) (pc' := 18) hC dX1_fits_15 (by decide) rfl (fun c3 => ?_) (fun c3 => ?_)
  · have h := jit_t c3 h
    refine j_iconst (v := 0) (pc' := 49) hC dX1_fits_48 rfl rfl ?_
    have q8 := jinj1 h
    subst q8
    exact j_zret hC dX1_fits_49 (by decide)
  · have h := jit_f c3 h
    refine j_iload_n 2 (pc' := 19) hC dX1_fits_18 rfl rfl ?_
    refine j_bipush (v := -9) (pc' := 21) hC dX1_fits_19 rfl rfl ?_
    refine j_icmp_eq (tgt := 44) (pc' := 24) hC dX1_fits_21 (by decide) rfl (fun c4 => ?_) (fun c4 => ?_)
    · have h := jit_t c4 h
      refine j_iconst (v := 1) (pc' := 45) hC dX1_fits_44 rfl rfl ?_
      refine j_goto (tgt := 49) (pc' := 0) hC dX1_fits_45 (by decide) ?_
      have q8 := jinj1 h
      subst q8
      exact j_zret hC dX1_fits_49 (by decide)
    · have h := jit_f c4 h
      refine j_aload_n 0 (pc' := 25) hC dX1_fits_24 rfl rfl ?_
      refine j_getr' (o2 := 29) (pc' := 28) hC dX1_fits_25 rfl fi_X1_31 gx65 rfl ?_
      refine j_iload_n 2 (pc' := 29) hC dX1_fits_28 rfl rfl ?_
      refine j_iload_n 1 (pc' := 30) hC dX1_fits_29 rfl rfl ?_
      refine j_aload_n 0 (pc' := 31) hC dX1_fits_30 rfl rfl ?_
      refine j_geti' (pc' := 34) hC dX1_fits_31 rfl fi_X1_28 gx65 ?_
      refine j_aload_n 0 (pc' := 35) hC dX1_fits_34 rfl rfl ?_
      refine j_geti' (pc' := 38) hC dX1_fits_35 rfl fi_X1_25 gx65 ?_
      obtain ⟨r5, hc6, h⟩ := jb1_s h
      refine j_callVi [.int a2, .int a1, .int (gi M 65 6), .int (gi M 65 5)] (pc' := 41) hC dX1_fits_38 rfl (t_X2_hindrance _ _ hc6) gx29 vcl2 cv_X1_58 ⟨⟨Nat.le_of_ble_eq_true rfl, Nat.le_of_ble_eq_true rfl⟩, rfl, Nat.le_of_ble_eq_true rfl⟩ rfl rfl ?_
      refine j_if_ne (tgt := 48) (pc' := 44) hC dX1_fits_41 (by decide) rfl (fun c7 => ?_) (fun c7 => ?_)
      · have h := jit_f c7 h
        refine j_iconst (v := 0) (pc' := 49) hC dX1_fits_48 rfl rfl ?_
        have q8 := jinj1 h
        subst q8
        exact j_zret hC dX1_fits_49 (by decide)
      · have h := jit_t c7 h
        refine j_iconst (v := 1) (pc' := 45) hC dX1_fits_44 rfl rfl ?_
        refine j_goto (tgt := 49) (pc' := 0) hC dX1_fits_45 (by decide) ?_
        have q8 := jinj1 h
        subst q8
        exact j_zret hC dX1_fits_49 (by decide)
theorem t_X1_gapBehind (l : Launch) (E : jE) {a1 : Int32} {a2 : Int32} {M : jM} {r : Int32} (h : f_X1_gapBehind a1 a2 M = some r) : jCi l yX1_gapBehind cX1_gapBehind 4 (some .int) 1 24 E RX GX (fun a _ => [.ref (a 65), .int a1, .int a2]) M r M := by
  refine jCi_of (own := RX1) (by decide) rfl (fun _ _ => Nat.le_of_ble_eq_true rfl) ?_
  intro Γ hC
  show jJ Γ GX RX 0 [(0, .ref (jad Γ 65)), (1, .int a1), (2, .int a2)] [] M (jQi Γ RX GX r M)
  unfold f_X1_gapBehind at h
  refine j_iload_n 2 (pc' := 1) hC dX1_gapBehind_0 rfl rfl ?_
  refine j_bipush (v := -9) (pc' := 3) hC dX1_gapBehind_1 rfl rfl ?_
  obtain ⟨v5, hm7, h⟩ := jb1_s h
  have K6 : jJ Γ GX RX 23 [(0, .ref (jad Γ 65)), (1, .int a1), (2, .int a2)] [.int v5] M (jQi Γ RX GX r M) := by
    refine j_istore_n (pc' := 24) hC dX1_gapBehind_23 rfl rfl (by decide) rfl ?_
    refine j_iload_n 0 (pc' := 25) hC dX1_gapBehind_24 rfl rfl ?_
    refine j_if_eq (tgt := 32) (pc' := 28) hC dX1_gapBehind_25 (by decide) rfl (fun c12 => ?_) (fun c12 => ?_)
    · have h := jit_t c12 h
      refine j_iload_n 2 (pc' := 33) hC dX1_gapBehind_32 rfl rfl ?_
      refine j_iconst (v := 1) (pc' := 34) hC dX1_gapBehind_33 rfl rfl ?_
      refine j_iadd (pc' := 35) hC dX1_gapBehind_34 rfl ?_
      refine j_iconst (v := 2) (pc' := 36) hC dX1_gapBehind_35 rfl rfl ?_
      refine j_mmin (pc' := 39) hC dX1_gapBehind_36 rfl cm_X1_40 ⟨Nat.le_of_ble_eq_true rfl, Nat.le_of_ble_eq_true rfl⟩ ?_
      have q8 := jinj1 h
      subst q8
      exact j_iret hC dX1_gapBehind_39
    · have h := jit_f c12 h
      refine j_iconst (v := 0) (pc' := 29) hC dX1_gapBehind_28 rfl rfl ?_
      refine j_goto (tgt := 39) (pc' := 0) hC dX1_gapBehind_29 (by decide) ?_
      have q8 := jinj1 h
      subst q8
      exact j_iret hC dX1_gapBehind_39
  refine j_icmp_eq (tgt := 22) (pc' := 6) hC dX1_gapBehind_3 (by decide) rfl (fun c8 => ?_) (fun c8 => ?_)
  · have hm7 := jit_t c8 hm7
    refine j_iconst (v := 0) (pc' := 23) hC dX1_gapBehind_22 rfl rfl ?_
    have q8 := jinj1 hm7
    subst q8
    exact j_sub [0, 1, 2] rfl K6
  · have hm7 := jit_f c8 hm7
    refine j_aload_n 0 (pc' := 7) hC dX1_gapBehind_6 rfl rfl ?_
    refine j_getr' (o2 := 29) (pc' := 10) hC dX1_gapBehind_7 rfl fi_X1_31 gx65 rfl ?_
    refine j_iload_n 2 (pc' := 11) hC dX1_gapBehind_10 rfl rfl ?_
    refine j_iconst (v := 1) (pc' := 12) hC dX1_gapBehind_11 rfl rfl ?_
    obtain ⟨r9, hc10, hm7⟩ := jb1_s hm7
    refine j_callVi [.int a2, .int (1 : Int32)] (pc' := 15) hC dX1_gapBehind_12 rfl (t_X2_isOfKind _ _ hc10) gx29 vcl2 cv_X1_71 ⟨⟨Nat.le_of_ble_eq_true rfl, Nat.le_of_ble_eq_true rfl⟩, rfl, Nat.le_of_ble_eq_true rfl⟩ rfl rfl ?_
    refine j_if_eq (tgt := 22) (pc' := 18) hC dX1_gapBehind_15 (by decide) rfl (fun c11 => ?_) (fun c11 => ?_)
    · have hm7 := jit_t c11 hm7
      refine j_iconst (v := 0) (pc' := 23) hC dX1_gapBehind_22 rfl rfl ?_
      have q8 := jinj1 hm7
      subst q8
      exact j_sub [0, 1, 2] rfl K6
    · have hm7 := jit_f c11 hm7
      refine j_iconst (v := 1) (pc' := 19) hC dX1_gapBehind_18 rfl rfl ?_
      refine j_goto (tgt := 23) (pc' := 0) hC dX1_gapBehind_19 (by decide) ?_
      have q8 := jinj1 hm7
      subst q8
      exact j_sub [0, 1, 2] rfl K6
theorem t_X1_deedBit (l : Launch) (E : jE) {a1 : Int32} {M : jM} {r : Int32} (h : f_X1_deedBit a1 M = some r) : jCi l yX1_deedBit cX1_deedBit 1 (some .int) 0 0 E RX GX (fun _ _ => [.int a1]) M r M := by
  refine jCi_of (own := RX1) (by decide) rfl (fun _ _ => Nat.le_of_ble_eq_true rfl) ?_
  intro Γ hC
  show jJ Γ GX RX 0 [(0, .int a1)] [] M (jQi Γ RX GX r M)
  unfold f_X1_deedBit at h
  refine j_iload_n 0 (pc' := 1) hC dX1_deedBit_0 rfl rfl ?_
  refine j_bipush (v := -9) (pc' := 3) hC dX1_deedBit_1 rfl rfl ?_
  refine j_icmp_ne (tgt := 10) (pc' := 6) hC dX1_deedBit_3 (by decide) rfl (fun c1 => ?_) (fun c1 => ?_)
  · have h := jit_f c1 h
    refine j_iconst (v := 1) (pc' := 11) hC dX1_deedBit_10 rfl rfl ?_
    refine j_iload_n 0 (pc' := 12) hC dX1_deedBit_11 rfl rfl ?_
    refine j_ishl (pc' := 13) hC dX1_deedBit_12 rfl ?_
    have q8 := jinj1 h
    subst q8
    exact j_iret hC dX1_deedBit_13
  · have h := jit_t c1 h
    refine j_iconst (v := 0) (pc' := 7) hC dX1_deedBit_6 rfl rfl ?_
    refine j_goto (tgt := 13) (pc' := 0) hC dX1_deedBit_7 (by decide) ?_
    have q8 := jinj1 h
    subst q8
    exact j_iret hC dX1_deedBit_13
theorem t_X1_live (l : Launch) (E : jE) {a1 : Int32} {a2 : Int32} {M : jM} {M' : jM} (h : f_X1_live a1 a2 M = some M') : jCv l yX1_live cX1_live 3 (none) 2 47 E RX GX (fun a _ => [.ref (a 65), .int a1, .int a2]) M M' := by
  refine jCv_of (own := RX1) (by decide) rfl (fun _ _ => Nat.le_of_ble_eq_true rfl) ?_
  intro Γ hC
  show jJ Γ GX RX 0 [(0, .ref (jad Γ 65)), (1, .int a1), (2, .int a2)] [] M (jQv Γ RX GX M')
  unfold f_X1_live at h
  refine j_aload_n 0 (pc' := 1) hC dX1_live_0 rfl rfl ?_
  refine j_dup (pc' := 2) hC dX1_live_1 rfl rfl ?_
  refine j_geti' (pc' := 5) hC dX1_live_2 rfl fi_X1_22 gx65 ?_
  refine j_iconst (v := 1) (pc' := 6) hC dX1_live_5 rfl rfl ?_
  refine j_iload_n 1 (pc' := 7) hC dX1_live_6 rfl rfl ?_
  refine j_ishl (pc' := 8) hC dX1_live_7 rfl ?_
  refine j_ior (pc' := 9) hC dX1_live_8 rfl ?_
  obtain ⟨M1, eM1, h⟩ := jlet_s h
  refine j_puti' (pc' := 12) hC dX1_live_9 rfl fp_X1_22 gx65 eM1 ?_
  refine j_aload_n 0 (pc' := 13) hC dX1_live_12 rfl rfl ?_
  refine j_aload_n 0 (pc' := 14) hC dX1_live_13 rfl rfl ?_
  refine j_aload_n 0 (pc' := 15) hC dX1_live_14 rfl rfl ?_
  refine j_geti' (pc' := 18) hC dX1_live_15 rfl fi_X1_25 gx65 ?_
  refine j_iload_n 2 (pc' := 19) hC dX1_live_18 rfl rfl ?_
  obtain ⟨r2, hc3, h⟩ := jb1_s h
  refine j_callVi [.int (gi M1 65 5), .int a2] (pc' := 22) hC dX1_live_19 rfl (t_X1_gapBehind _ _ hc3) gx65 vcl1 cv_X1_64 ⟨⟨Nat.le_of_ble_eq_true rfl, Nat.le_of_ble_eq_true rfl⟩, rfl, Nat.le_of_ble_eq_true rfl⟩ rfl rfl ?_
  obtain ⟨M4, eM4, h⟩ := jlet_s h
  refine j_puti' (pc' := 25) hC dX1_live_22 rfl fp_X1_25 gx65 eM4 ?_
  refine j_aload_n 0 (pc' := 26) hC dX1_live_25 rfl rfl ?_
  refine j_dup (pc' := 27) hC dX1_live_26 rfl rfl ?_
  refine j_geti' (pc' := 30) hC dX1_live_27 rfl fi_X1_28 gx65 ?_
  refine j_iload_n 2 (pc' := 31) hC dX1_live_30 rfl rfl ?_
  obtain ⟨r5, hc6, h⟩ := jb1_s h
  refine j_callSi [.int a2] (pc' := 34) hC dX1_live_31 rfl (t_X1_deedBit _ _ hc6) cs_X1_67 ⟨⟨Nat.le_of_ble_eq_true rfl, Nat.le_of_ble_eq_true rfl⟩, rfl, Nat.le_of_ble_eq_true rfl⟩ rfl rfl ?_
  refine j_ior (pc' := 35) hC dX1_live_34 rfl ?_
  obtain ⟨M7, eM7, h⟩ := jlet_s h
  refine j_puti' (pc' := 38) hC dX1_live_35 rfl fp_X1_28 gx65 eM7 ?_
  have q8 := jinj1 h
  subst q8
  exact j_vret hC dX1_live_38
theorem lp_X1_follow_L2_b {Γ : jG} (hC : jOK Γ cX1_follow 4 RX1 (some .int) { frames := 5, cells := 0, slots := 0, locals := 111 }) {Q : State → Prop} (o1 : Nat) (n1 : Nat) (ho1 : GX[o1]? = some (0, n1)) (rec : Int32 → Int32 → jM → Option (Int32 × jM)) (ih : ∀ (x2 : Int32) (x3 : Int32) (M : jM) (e3 : Int32) (Me : jM), rec x2 x3 M = some (e3, Me) → jJ Γ GX RX 48 [(0, .ref (jad Γ 65)), (1, .ref (jad Γ o1)), (2, .int x2), (3, .int e3)] [] Me Q → jJ Γ GX RX 2 [(0, .ref (jad Γ 65)), (1, .ref (jad Γ o1)), (2, .int x2), (3, .int x3)] [] M Q) (x2 : Int32) (x3 : Int32) (M : jM) (e3 : Int32) (Me : jM) (h : f_X1_follow_L2_b o1 n1 rec x2 x3 M = some (e3, Me)) (hK : jJ Γ GX RX 48 [(0, .ref (jad Γ 65)), (1, .ref (jad Γ o1)), (2, .int x2), (3, .int e3)] [] Me Q) : jJ Γ GX RX 2 [(0, .ref (jad Γ 65)), (1, .ref (jad Γ o1)), (2, .int x2), (3, .int x3)] [] M Q := by
  unfold f_X1_follow_L2_b at h
  refine j_iload_n 3 (pc' := 3) hC dX1_follow_2 rfl rfl ?_
  refine j_iload_n 2 (pc' := 4) hC dX1_follow_3 rfl rfl ?_
  refine j_icmp_ge (tgt := 48) (pc' := 7) hC dX1_follow_4 (by decide) rfl (fun c1 => ?_) (fun c1 => ?_)
  · have h := jit_t c1 h
    obtain ⟨q0, q1⟩ := jinj2 h
    subst q0
    subst q1
    refine j_sub [0, 1, 2, 3] rfl ?_
    exact hK
  · have h := jit_f c1 h
    refine j_aload_n 0 (pc' := 8) hC dX1_follow_7 rfl rfl ?_
    refine j_aload_n 1 (pc' := 9) hC dX1_follow_8 rfl rfl ?_
    refine j_iconst (v := 2) (pc' := 10) hC dX1_follow_9 rfl rfl ?_
    refine j_iload_n 3 (pc' := 11) hC dX1_follow_10 rfl rfl ?_
    refine j_imul (pc' := 12) hC dX1_follow_11 rfl ?_
    obtain ⟨g2, h⟩ := jg_s h
    refine j_iald (pc' := 13) hC dX1_follow_12 rfl ho1 g2 ?_
    refine j_aload_n 1 (pc' := 14) hC dX1_follow_13 rfl rfl ?_
    refine j_iconst (v := 2) (pc' := 15) hC dX1_follow_14 rfl rfl ?_
    refine j_iload_n 3 (pc' := 16) hC dX1_follow_15 rfl rfl ?_
    refine j_imul (pc' := 17) hC dX1_follow_16 rfl ?_
    refine j_iconst (v := 1) (pc' := 18) hC dX1_follow_17 rfl rfl ?_
    refine j_iadd (pc' := 19) hC dX1_follow_18 rfl ?_
    obtain ⟨g3, h⟩ := jg_s h
    refine j_iald (pc' := 20) hC dX1_follow_19 rfl ho1 g3 ?_
    obtain ⟨r4, hc5, h⟩ := jb1_s h
    refine j_callVi [.int (gi M o1 ((2 : Int32) * x3).toNatClampNeg), .int (gi M o1 (((2 : Int32) * x3) + (1 : Int32)).toNatClampNeg)] (pc' := 23) hC dX1_follow_20 rfl (t_X1_fits _ _ hc5) gx65 vcl1 cv_X1_47 ⟨⟨Nat.le_of_ble_eq_true rfl, Nat.le_of_ble_eq_true rfl⟩, rfl, Nat.le_of_ble_eq_true rfl⟩ rfl rfl ?_
    refine j_if_eq (tgt := 48) (pc' := 26) hC dX1_follow_23 (by decide) rfl (fun c6 => ?_) (fun c6 => ?_)
    · have h := jit_t c6 h
      obtain ⟨q0, q1⟩ := jinj2 h
      subst q0
      subst q1
      refine j_sub [0, 1, 2, 3] rfl ?_
      exact hK
    · have h := jit_f c6 h
      refine j_aload_n 0 (pc' := 27) hC dX1_follow_26 rfl rfl ?_
      refine j_aload_n 1 (pc' := 28) hC dX1_follow_27 rfl rfl ?_
      refine j_iconst (v := 2) (pc' := 29) hC dX1_follow_28 rfl rfl ?_
      refine j_iload_n 3 (pc' := 30) hC dX1_follow_29 rfl rfl ?_
      refine j_imul (pc' := 31) hC dX1_follow_30 rfl ?_
      obtain ⟨g7, h⟩ := jg_s h
      refine j_iald (pc' := 32) hC dX1_follow_31 rfl ho1 g7 ?_
      refine j_aload_n 1 (pc' := 33) hC dX1_follow_32 rfl rfl ?_
      refine j_iconst (v := 2) (pc' := 34) hC dX1_follow_33 rfl rfl ?_
      refine j_iload_n 3 (pc' := 35) hC dX1_follow_34 rfl rfl ?_
      refine j_imul (pc' := 36) hC dX1_follow_35 rfl ?_
      refine j_iconst (v := 1) (pc' := 37) hC dX1_follow_36 rfl rfl ?_
      refine j_iadd (pc' := 38) hC dX1_follow_37 rfl ?_
      obtain ⟨g8, h⟩ := jg_s h
      refine j_iald (pc' := 39) hC dX1_follow_38 rfl ho1 g8 ?_
      obtain ⟨M9, hc10, h⟩ := jb1_s h
      refine j_callVv [.int (gi M o1 ((2 : Int32) * x3).toNatClampNeg), .int (gi M o1 (((2 : Int32) * x3) + (1 : Int32)).toNatClampNeg)] (pc' := 42) hC dX1_follow_39 rfl (t_X1_live _ _ hc10) gx65 vcl1 cv_X1_51 ⟨⟨Nat.le_of_ble_eq_true rfl, Nat.le_of_ble_eq_true rfl⟩, rfl, Nat.le_of_ble_eq_true rfl⟩ rfl rfl ?_
      obtain ⟨v11, ev11, h⟩ := jlet_s h
      refine j_iinc' 3 (c := 1) (pc' := 45) hC dX1_follow_42 rfl rfl rfl ev11 (by decide) rfl ?_
      refine j_goto (tgt := 2) (pc' := 0) hC dX1_follow_45 (by decide) ?_
      refine j_sub [1, 2, 3, 0] rfl ?_
      exact ih _ _ _ _ _ h hK
theorem lp_X1_follow_L2 {Γ : jG} (hC : jOK Γ cX1_follow 4 RX1 (some .int) { frames := 5, cells := 0, slots := 0, locals := 111 }) {Q : State → Prop} (o1 : Nat) (n1 : Nat) (ho1 : GX[o1]? = some (0, n1)) : ∀ (n : Nat) (x2 : Int32) (x3 : Int32) (M : jM) (e3 : Int32) (Me : jM), f_X1_follow_L2 o1 n1 n x2 x3 M = some (e3, Me) → jJ Γ GX RX 48 [(0, .ref (jad Γ 65)), (1, .ref (jad Γ o1)), (2, .int x2), (3, .int e3)] [] Me Q → jJ Γ GX RX 2 [(0, .ref (jad Γ 65)), (1, .ref (jad Γ o1)), (2, .int x2), (3, .int x3)] [] M Q := by
  intro n
  induction n with
  | zero =>
    intro x2 x3 M e3 Me h hK
    exact jno h
  | succ n ih =>
    intro x2 x3 M e3 Me h hK
    exact lp_X1_follow_L2_b hC o1 n1 ho1 (f_X1_follow_L2 o1 n1 n) ih x2 x3 M e3 Me h hK
theorem t_X1_follow (l : Launch) (E : jE) {o1 : Nat} {n1 : Nat} {a2 : Int32} (ho1 : GX[o1]? = some (0, n1)) {M : jM} {r : Int32} {M' : jM} (h : f_X1_follow o1 n1 a2 M = some (r, M')) : jCi l yX1_follow cX1_follow 4 (some .int) 5 111 E RX GX (fun a _ => [.ref (a 65), .ref (a o1), .int a2]) M r M' := by
  refine jCi_of (own := RX1) (by decide) rfl (fun _ _ => Nat.le_of_ble_eq_true rfl) ?_
  intro Γ hC
  show jJ Γ GX RX 0 [(0, .ref (jad Γ 65)), (1, .ref (jad Γ o1)), (2, .int a2)] [] M (jQi Γ RX GX r M')
  unfold f_X1_follow at h
  refine j_iconst (v := 0) (pc' := 1) hC dX1_follow_0 rfl rfl ?_
  refine j_istore_n (pc' := 2) hC dX1_follow_1 rfl rfl (by decide) rfl ?_
  refine j_sub [1, 2, 3, 0] rfl ?_
  obtain ⟨v1, M2, hm3, h⟩ := jb2_s h
  refine lp_X1_follow_L2 hC o1 n1 ho1 jfu a2 (0 : Int32) M v1 M2 hm3 ?_
  refine j_iload_n 3 (pc' := 49) hC dX1_follow_48 rfl rfl ?_
  obtain ⟨q0, q1⟩ := jinj2 h
  subst q0
  subst q1
  exact j_iret hC dX1_follow_49
theorem t_X5_run (l : Launch) (E : jE) {a1 : Int32} {M : jM} {r : Int32} {M' : jM} (h : f_X5_run a1 M = some (r, M')) : jCi l yX5_run cX5_run 5 (some .int) 6 134 E RX GX (fun a _ => [.ref (a 0), .int a1]) M r M' := by
  refine jCi_of (own := RX5) (by decide) rfl (fun _ _ => Nat.le_of_ble_eq_true rfl) ?_
  intro Γ hC
  show jJ Γ GX RX 0 [(0, .ref (jad Γ 0)), (1, .int a1)] [] M (jQi Γ RX GX r M')
  unfold f_X5_run at h
  refine j_aload_n 0 (pc' := 1) hC dX5_run_0 rfl rfl ?_
  refine j_iload_n 1 (pc' := 2) hC dX5_run_1 rfl rfl ?_
  obtain ⟨r1, M2, hc3, h⟩ := jb2_s h
  refine j_callVi [.int a1] (pc' := 5) hC dX5_run_2 rfl (t_X5_refusalInHouse _ _ hc3) gx0 vcl5 cv_X5_239 ⟨⟨Nat.le_of_ble_eq_true rfl, Nat.le_of_ble_eq_true rfl⟩, rfl, Nat.le_of_ble_eq_true rfl⟩ rfl rfl ?_
  refine j_istore_n (pc' := 6) hC dX5_run_5 rfl rfl (by decide) rfl ?_
  refine j_iload_n 0 (pc' := 7) hC dX5_run_6 rfl rfl ?_
  refine j_if_eq (tgt := 12) (pc' := 10) hC dX5_run_7 (by decide) rfl (fun c4 => ?_) (fun c4 => ?_)
  · have h := jit_t c4 h
    refine j_aload_n 1 (pc' := 13) hC dX5_run_12 rfl rfl ?_
    refine j_getr' (o2 := 1) (pc' := 16) hC dX5_run_13 rfl fi_X5_14 gx0 rfl ?_
    refine j_getr' (o2 := 2) (pc' := 19) hC dX5_run_16 rfl fi_X5_108 gx1 rfl ?_
    refine j_iload_n 2 (pc' := 20) hC dX5_run_19 rfl rfl ?_
    obtain ⟨g5, h⟩ := jg_s h
    refine j_iald (pc' := 21) hC dX5_run_20 rfl gx2 g5 ?_
    obtain ⟨v6, ev6, h⟩ := jlet_s h
    refine j_istore_n (pc' := 22) hC dX5_run_21 rfl ev6 (by decide) rfl ?_
    refine j_iload_n 0 (pc' := 23) hC dX5_run_22 rfl rfl ?_
    refine j_iconst (v := 2) (pc' := 24) hC dX5_run_23 rfl rfl ?_
    refine j_irem (pc' := 25) hC dX5_run_24 rfl (by decide) ?_
    refine j_if_ne (tgt := 34) (pc' := 28) hC dX5_run_25 (by decide) rfl (fun c7 => ?_) (fun c7 => ?_)
    · have h := jit_f c7 h
      refine j_aload_n 2 (pc' := 35) hC dX5_run_34 rfl rfl ?_
      refine j_iconst (v := 5) (pc' := 36) hC dX5_run_35 rfl rfl ?_
      obtain ⟨r8, M9, hc10, h⟩ := jb2_s h
      refine j_callVi [.int (5 : Int32)] (pc' := 39) hC dX5_run_36 rfl (t_X5_find _ _ hc10) gx0 vcl5 cv_X5_81 ⟨⟨Nat.le_of_ble_eq_true rfl, Nat.le_of_ble_eq_true rfl⟩, rfl, Nat.le_of_ble_eq_true rfl⟩ rfl rfl ?_
      obtain ⟨q0, q1⟩ := jinj2 h
      subst q0
      subst q1
      exact j_iret hC dX5_run_39
    · have h := jit_t c7 h
      refine j_iload_n 0 (pc' := 29) hC dX5_run_28 rfl rfl ?_
      refine j_bipush (v := 14) (pc' := 31) hC dX5_run_29 rfl rfl ?_
      refine j_icmp_le (tgt := 40) (pc' := 34) hC dX5_run_31 (by decide) rfl (fun c11 => ?_) (fun c11 => ?_)
      · have h := jit_t c11 h
        refine j_aload_n 2 (pc' := 41) hC dX5_run_40 rfl rfl ?_
        refine j_aload_n 2 (pc' := 42) hC dX5_run_41 rfl rfl ?_
        refine j_getr' (o2 := 1) (pc' := 45) hC dX5_run_42 rfl fi_X5_14 gx0 rfl ?_
        refine j_getr' (o2 := 3) (pc' := 48) hC dX5_run_45 rfl fi_X5_100 gx1 rfl ?_
        refine j_iload_n 3 (pc' := 49) hC dX5_run_48 rfl rfl ?_
        obtain ⟨g12, h⟩ := jg_s h
        refine j_aald4 (o2 := (4 + a1.toNatClampNeg)) (pc' := 50) hC dX5_run_49 rfl gx3 g12 (rxc3 g12) ?_
        refine j_iload_n 0 (pc' := 51) hC dX5_run_50 rfl rfl ?_
        obtain ⟨r13, hc14, h⟩ := jb1_s h
        refine j_callVi [.ref (jad Γ (4 + a1.toNatClampNeg)), .int v6] (pc' := 54) hC dX5_run_51 rfl (t_X5_areAllPairs _ _ (gxc3 g12) hc14) gx0 vcl5 cv_X5_242 ⟨⟨Nat.le_of_ble_eq_true rfl, Nat.le_of_ble_eq_true rfl⟩, rfl, Nat.le_of_ble_eq_true rfl⟩ rfl rfl ?_
        refine j_if_ne (tgt := 63) (pc' := 57) hC dX5_run_54 (by decide) rfl (fun c15 => ?_) (fun c15 => ?_)
        · have h := jit_f c15 h
          refine j_aload_n 2 (pc' := 64) hC dX5_run_63 rfl rfl ?_
          refine j_getr' (o2 := 65) (pc' := 67) hC dX5_run_64 rfl fi_X5_55 gx0 rfl ?_
          refine j_aload_n 2 (pc' := 68) hC dX5_run_67 rfl rfl ?_
          refine j_getr' (o2 := 39) (pc' := 71) hC dX5_run_68 rfl fi_X5_40 gx0 rfl ?_
          refine j_aload_n 2 (pc' := 72) hC dX5_run_71 rfl rfl ?_
          refine j_getr' (o2 := 39) (pc' := 75) hC dX5_run_72 rfl fi_X5_40 gx0 rfl ?_
          obtain ⟨r16, hc17, h⟩ := jb1_s h
          refine j_callVi [] (pc' := 78) hC dX5_run_75 rfl (t_X0_shelfBits _ _ hc17) gx39 vcl0 cv_X5_209 ⟨⟨Nat.le_of_ble_eq_true rfl, Nat.le_of_ble_eq_true rfl⟩, rfl, Nat.le_of_ble_eq_true rfl⟩ rfl rfl ?_
          obtain ⟨M18, hc19, h⟩ := jb1_s h
          refine j_callVv [.ref (jad Γ 39), .int r16] (pc' := 81) hC dX5_run_78 rfl (t_X1_start _ _ hc19) gx65 vcl1 cv_X5_246 ⟨⟨Nat.le_of_ble_eq_true rfl, Nat.le_of_ble_eq_true rfl⟩, rfl, Nat.le_of_ble_eq_true rfl⟩ rfl rfl ?_
          refine j_aload_n 2 (pc' := 82) hC dX5_run_81 rfl rfl ?_
          refine j_getr' (o2 := 65) (pc' := 85) hC dX5_run_82 rfl fi_X5_55 gx0 rfl ?_
          refine j_aload_n 2 (pc' := 86) hC dX5_run_85 rfl rfl ?_
          refine j_getr' (o2 := 1) (pc' := 89) hC dX5_run_86 rfl fi_X5_14 gx0 rfl ?_
          refine j_getr' (o2 := 3) (pc' := 92) hC dX5_run_89 rfl fi_X5_100 gx1 rfl ?_
          refine j_iload_n 3 (pc' := 93) hC dX5_run_92 rfl rfl ?_
          obtain ⟨g20, h⟩ := jg_s h
          refine j_aald4 (o2 := (4 + a1.toNatClampNeg)) (pc' := 94) hC dX5_run_93 rfl gx3 g20 (rxc3 g20) ?_
          refine j_iload_n 0 (pc' := 95) hC dX5_run_94 rfl rfl ?_
          refine j_iconst (v := 2) (pc' := 96) hC dX5_run_95 rfl rfl ?_
          refine j_idiv (pc' := 97) hC dX5_run_96 rfl (by decide) ?_
          obtain ⟨r21, M22, hc23, h⟩ := jb2_s h
          refine j_callVi [.ref (jad Γ (4 + a1.toNatClampNeg)), .int (v6 / (2 : Int32))] (pc' := 100) hC dX5_run_97 rfl (t_X1_follow _ _ (gxc3 g20) hc23) gx65 vcl1 cv_X5_250 ⟨⟨Nat.le_of_ble_eq_true rfl, Nat.le_of_ble_eq_true rfl⟩, rfl, Nat.le_of_ble_eq_true rfl⟩ rfl rfl ?_
          refine j_istore (pc' := 102) hC dX5_run_100 rfl rfl (by decide) rfl ?_
          refine j_aload_n 3 (pc' := 103) hC dX5_run_102 rfl rfl ?_
          refine j_aload_n 3 (pc' := 104) hC dX5_run_103 rfl rfl ?_
          refine j_getr' (o2 := 65) (pc' := 107) hC dX5_run_104 rfl fi_X5_55 gx0 rfl ?_
          refine j_geti' (pc' := 110) hC dX5_run_107 rfl fi_X5_253 gx65 ?_
          obtain ⟨M24, eM24, h⟩ := jlet_s h
          refine j_puti' (pc' := 113) hC dX5_run_110 rfl fp_X5_67 gx0 eM24 ?_
          refine j_iload 0 (pc' := 115) hC dX5_run_113 rfl rfl ?_
          obtain ⟨q0, q1⟩ := jinj2 h
          subst q0
          subst q1
          exact j_iret hC dX5_run_115
        · have h := jit_t c15 h
          refine j_aload_n 2 (pc' := 58) hC dX5_run_57 rfl rfl ?_
          refine j_iconst (v := 3) (pc' := 59) hC dX5_run_58 rfl rfl ?_
          obtain ⟨r25, M26, hc27, h⟩ := jb2_s h
          refine j_callVi [.int (3 : Int32)] (pc' := 62) hC dX5_run_59 rfl (t_X5_find _ _ hc27) gx0 vcl5 cv_X5_81 ⟨⟨Nat.le_of_ble_eq_true rfl, Nat.le_of_ble_eq_true rfl⟩, rfl, Nat.le_of_ble_eq_true rfl⟩ rfl rfl ?_
          obtain ⟨q0, q1⟩ := jinj2 h
          subst q0
          subst q1
          exact j_iret hC dX5_run_62
      · have h := jit_f c11 h
        refine j_aload_n 2 (pc' := 35) hC dX5_run_34 rfl rfl ?_
        refine j_iconst (v := 5) (pc' := 36) hC dX5_run_35 rfl rfl ?_
        obtain ⟨r28, M29, hc30, h⟩ := jb2_s h
        refine j_callVi [.int (5 : Int32)] (pc' := 39) hC dX5_run_36 rfl (t_X5_find _ _ hc30) gx0 vcl5 cv_X5_81 ⟨⟨Nat.le_of_ble_eq_true rfl, Nat.le_of_ble_eq_true rfl⟩, rfl, Nat.le_of_ble_eq_true rfl⟩ rfl rfl ?_
        obtain ⟨q0, q1⟩ := jinj2 h
        subst q0
        subst q1
        exact j_iret hC dX5_run_39
  · have h := jit_f c4 h
    refine j_iload_n 0 (pc' := 11) hC dX5_run_10 rfl rfl ?_
    obtain ⟨q0, q1⟩ := jinj2 h
    subst q0
    subst q1
    exact j_iret hC dX5_run_11
