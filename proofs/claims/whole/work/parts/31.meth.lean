theorem t_X6_begin (l : Launch) (E : jE) {M : jM} {r : Int32} (h : f_X6_begin M = some r) : jCi l yX6_begin cX6_begin 1 (some .int) 1 22 E RM GM (fun a _ => [.ref (a 0)]) M r M := by
  refine jCi_of (own := RX6) (by decide) rfl (fun _ _ => Nat.le_of_ble_eq_true rfl) ?_
  intro Γ hC
  show jJ Γ GM RM 0 [(0, .ref (jad Γ 0))] [] M (jQi Γ RM GM r M)
  unfold f_X6_begin at h
  refine j_iconst (v := 0) (pc' := 1) hC dX6_begin_0 rfl rfl ?_
  refine j_aload_n 0 (pc' := 2) hC dX6_begin_1 rfl rfl ?_
  refine j_getr' (o2 := 12) (pc' := 5) hC dX6_begin_2 rfl fi_X6_43 gm0 rfl ?_
  refine j_iconst (v := 3) (pc' := 6) hC dX6_begin_5 rfl rfl ?_
  refine j_iald (pc' := 7) hC dX6_begin_6 rfl gm12 (by decide) ?_
  refine j_aload_n 0 (pc' := 8) hC dX6_begin_7 rfl rfl ?_
  refine j_getr' (o2 := 12) (pc' := 11) hC dX6_begin_8 rfl fi_X6_43 gm0 rfl ?_
  refine j_iconst (v := 4) (pc' := 12) hC dX6_begin_11 rfl rfl ?_
  refine j_iald (pc' := 13) hC dX6_begin_12 rfl gm12 (by decide) ?_
  obtain ⟨r1, hc2, h⟩ := jb1_s h
  refine j_callSi [.int (0 : Int32), .int (gi M 12 (3 : Int32).toNatClampNeg), .int (gi M 12 (4 : Int32).toNatClampNeg)] (pc' := 16) hC dX6_begin_13 rfl (t_X6_caseOf _ _ hc2) cs_X6_240 ⟨⟨Nat.le_of_ble_eq_true rfl, Nat.le_of_ble_eq_true rfl⟩, rfl, Nat.le_of_ble_eq_true rfl⟩ rfl rfl ?_
  have q8 := jinj1 h
  subst q8
  exact j_iret hC dX6_begin_16
theorem lp_X6_reach_L2_b {Γ : jG} (hC : jOK Γ cX6_reach 5 RX6 (none) { frames := 5, cells := 0, slots := 0, locals := 116 }) {Q : State → Prop} (x1 : Int32) (rec : Int32 → jM → Option (Int32 × jM)) (ih : ∀ (x2 : Int32) (M : jM) (e2 : Int32) (Me : jM), rec x2 M = some (e2, Me) → jJ Γ GM RM 22 [(0, .ref (jad Γ 0)), (1, .int x1), (2, .int e2)] [] Me Q → jJ Γ GM RM 2 [(0, .ref (jad Γ 0)), (1, .int x1), (2, .int x2)] [] M Q) (x2 : Int32) (M : jM) (e2 : Int32) (Me : jM) (h : f_X6_reach_L2_b rec x2 M = some (e2, Me)) (hK : jJ Γ GM RM 22 [(0, .ref (jad Γ 0)), (1, .int x1), (2, .int e2)] [] Me Q) : jJ Γ GM RM 2 [(0, .ref (jad Γ 0)), (1, .int x1), (2, .int x2)] [] M Q := by
  unfold f_X6_reach_L2_b at h
  refine j_iload_n 2 (pc' := 3) hC dX6_reach_2 rfl rfl ?_
  refine j_sipush (v := 24576) (pc' := 6) hC dX6_reach_3 rfl rfl ?_
  refine j_icmp_ge (tgt := 22) (pc' := 9) hC dX6_reach_6 (by decide) rfl (fun c1 => ?_) (fun c1 => ?_)
  · have h := jit_t c1 h
    obtain ⟨q0, q1⟩ := jinj2 h
    subst q0
    subst q1
    refine j_sub [0, 1, 2] rfl ?_
    exact hK
  · have h := jit_f c1 h
    refine j_aload_n 0 (pc' := 10) hC dX6_reach_9 rfl rfl ?_
    refine j_getr' (o2 := 20) (pc' := 13) hC dX6_reach_10 rfl fi_X6_72 gm0 rfl ?_
    refine j_iload_n 2 (pc' := 14) hC dX6_reach_13 rfl rfl ?_
    refine j_iconst (v := 0) (pc' := 15) hC dX6_reach_14 rfl rfl ?_
    obtain ⟨g2, h⟩ := jg_s h
    obtain ⟨M3, eM3, h⟩ := jlet_s h
    refine j_zast' (pc' := 16) hC dX6_reach_15 rfl gm20 g2 eM3 ?_
    obtain ⟨v4, ev4, h⟩ := jlet_s h
    refine j_iinc' 2 (c := 1) (pc' := 19) hC dX6_reach_16 rfl rfl rfl ev4 (by decide) rfl ?_
    refine j_goto (tgt := 2) (pc' := 0) hC dX6_reach_19 (by decide) ?_
    refine j_sub [1, 2, 0] rfl ?_
    exact ih _ _ _ _ h hK
theorem lp_X6_reach_L2 {Γ : jG} (hC : jOK Γ cX6_reach 5 RX6 (none) { frames := 5, cells := 0, slots := 0, locals := 116 }) {Q : State → Prop} (x1 : Int32) : ∀ (n : Nat) (x2 : Int32) (M : jM) (e2 : Int32) (Me : jM), f_X6_reach_L2 n x2 M = some (e2, Me) → jJ Γ GM RM 22 [(0, .ref (jad Γ 0)), (1, .int x1), (2, .int e2)] [] Me Q → jJ Γ GM RM 2 [(0, .ref (jad Γ 0)), (1, .int x1), (2, .int x2)] [] M Q := by
  intro n
  induction n with
  | zero =>
    intro x2 M e2 Me h hK
    exact jno h
  | succ n ih =>
    intro x2 M e2 Me h hK
    exact lp_X6_reach_L2_b hC x1 (f_X6_reach_L2 n) ih x2 M e2 Me h hK
theorem lp_X6_reach_L63_b {Γ : jG} (hC : jOK Γ cX6_reach 5 RX6 (none) { frames := 5, cells := 0, slots := 0, locals := 116 }) {Q : State → Prop} (rec : Int32 → Int32 → Int32 → Int32 → jM → Option (Int32 × jM)) (ih : ∀ (x1 : Int32) (x2 : Int32) (x3 : Int32) (x4 : Int32) (M : jM) (e4 : Int32) (Me : jM), rec x1 x2 x3 x4 M = some (e4, Me) → jJ Γ GM RM 104 [(0, .ref (jad Γ 0)), (1, .int x1), (2, .int x2), (3, .int x3), (4, .int e4)] [] Me Q → jJ Γ GM RM 63 [(0, .ref (jad Γ 0)), (1, .int x1), (2, .int x2), (3, .int x3), (4, .int x4)] [] M Q) (x1 : Int32) (x2 : Int32) (x3 : Int32) (x4 : Int32) (M : jM) (e4 : Int32) (Me : jM) (h : f_X6_reach_L63_b rec x1 x2 x3 x4 M = some (e4, Me)) (hK : jJ Γ GM RM 104 [(0, .ref (jad Γ 0)), (1, .int x1), (2, .int x2), (3, .int x3), (4, .int e4)] [] Me Q) : jJ Γ GM RM 63 [(0, .ref (jad Γ 0)), (1, .int x1), (2, .int x2), (3, .int x3), (4, .int x4)] [] M Q := by
  unfold f_X6_reach_L63_b at h
  refine j_iload 4 (pc' := 65) hC dX6_reach_63 rfl rfl ?_
  refine j_aload_n 0 (pc' := 66) hC dX6_reach_65 rfl rfl ?_
  refine j_geti' (pc' := 69) hC dX6_reach_66 rfl fi_X6_156 gm0 ?_
  refine j_icmp_ge (tgt := 104) (pc' := 72) hC dX6_reach_69 (by decide) rfl (fun c1 => ?_) (fun c1 => ?_)
  · have h := jit_t c1 h
    obtain ⟨q0, q1⟩ := jinj2 h
    subst q0
    subst q1
    refine j_sub [0, 1, 2, 3, 4] rfl ?_
    exact hK
  · have h := jit_f c1 h
    refine j_aload_n 0 (pc' := 73) hC dX6_reach_72 rfl rfl ?_
    refine j_iload_n 2 (pc' := 74) hC dX6_reach_73 rfl rfl ?_
    refine j_iload_n 3 (pc' := 75) hC dX6_reach_74 rfl rfl ?_
    refine j_iload 4 (pc' := 77) hC dX6_reach_75 rfl rfl ?_
    refine j_iload_n 1 (pc' := 78) hC dX6_reach_77 rfl rfl ?_
    obtain ⟨r2, hc3, h⟩ := jb1_s h
    refine j_callVi [.int x2, .int x3, .int x4, .int x1] (pc' := 81) hC dX6_reach_78 rfl (t_X6_leads _ _ hc3) gm0 vcl6 cv_X6_247 ⟨⟨Nat.le_of_ble_eq_true rfl, Nat.le_of_ble_eq_true rfl⟩, rfl, Nat.le_of_ble_eq_true rfl⟩ rfl rfl ?_
    obtain ⟨M9, hm11, h⟩ := jb1_s h
    have K10 : jJ Γ GM RM 98 [(0, .ref (jad Γ 0)), (1, .int x1), (2, .int x2), (3, .int x3), (4, .int x4)] [] M9 Q := by
      obtain ⟨v17, ev17, h⟩ := jlet_s h
      refine j_iinc' 4 (c := 1) (pc' := 101) hC dX6_reach_98 rfl rfl rfl ev17 (by decide) rfl ?_
      refine j_goto (tgt := 63) (pc' := 0) hC dX6_reach_101 (by decide) ?_
      refine j_sub [1, 2, 3, 4, 0] rfl ?_
      exact ih _ _ _ _ _ _ _ h hK
    refine j_if_eq (tgt := 98) (pc' := 84) hC dX6_reach_81 (by decide) rfl (fun c12 => ?_) (fun c12 => ?_)
    · have hm11 := jit_t c12 hm11
      have q8 := jinj1 hm11
      subst q8
      exact j_sub [0, 1, 2, 3, 4] rfl K10
    · have hm11 := jit_f c12 hm11
      refine j_aload_n 0 (pc' := 85) hC dX6_reach_84 rfl rfl ?_
      refine j_getr' (o2 := 20) (pc' := 88) hC dX6_reach_85 rfl fi_X6_72 gm0 rfl ?_
      refine j_aload_n 0 (pc' := 89) hC dX6_reach_88 rfl rfl ?_
      refine j_iload_n 2 (pc' := 90) hC dX6_reach_89 rfl rfl ?_
      refine j_iload_n 3 (pc' := 91) hC dX6_reach_90 rfl rfl ?_
      refine j_iload 4 (pc' := 93) hC dX6_reach_91 rfl rfl ?_
      obtain ⟨r13, hc14, hm11⟩ := jb1_s hm11
      refine j_callVi [.int x2, .int x3, .int x4] (pc' := 96) hC dX6_reach_93 rfl (t_X6_behind _ _ hc14) gm0 vcl6 cv_X6_250 ⟨⟨Nat.le_of_ble_eq_true rfl, Nat.le_of_ble_eq_true rfl⟩, rfl, Nat.le_of_ble_eq_true rfl⟩ rfl rfl ?_
      refine j_iconst (v := 1) (pc' := 97) hC dX6_reach_96 rfl rfl ?_
      obtain ⟨g15, hm11⟩ := jg_s hm11
      obtain ⟨M16, eM16, hm11⟩ := jlet_s hm11
      refine j_zast' (pc' := 98) hC dX6_reach_97 rfl gm20 g15 eM16 ?_
      have q8 := jinj1 hm11
      subst q8
      exact j_sub [0, 1, 2, 3, 4] rfl K10
theorem lp_X6_reach_L63 {Γ : jG} (hC : jOK Γ cX6_reach 5 RX6 (none) { frames := 5, cells := 0, slots := 0, locals := 116 }) {Q : State → Prop} : ∀ (n : Nat) (x1 : Int32) (x2 : Int32) (x3 : Int32) (x4 : Int32) (M : jM) (e4 : Int32) (Me : jM), f_X6_reach_L63 n x1 x2 x3 x4 M = some (e4, Me) → jJ Γ GM RM 104 [(0, .ref (jad Γ 0)), (1, .int x1), (2, .int x2), (3, .int x3), (4, .int e4)] [] Me Q → jJ Γ GM RM 63 [(0, .ref (jad Γ 0)), (1, .int x1), (2, .int x2), (3, .int x3), (4, .int x4)] [] M Q := by
  intro n
  induction n with
  | zero =>
    intro x1 x2 x3 x4 M e4 Me h hK
    exact jno h
  | succ n ih =>
    intro x1 x2 x3 x4 M e4 Me h hK
    exact lp_X6_reach_L63_b hC (f_X6_reach_L63 n) ih x1 x2 x3 x4 M e4 Me h hK
theorem lp_X6_reach_L52_b {Γ : jG} (hC : jOK Γ cX6_reach 5 RX6 (none) { frames := 5, cells := 0, slots := 0, locals := 116 }) {Q : State → Prop} (rec : Int32 → Int32 → Int32 → jM → Option (Int32 × jM)) (ih : ∀ (x1 : Int32) (x2 : Int32) (x3 : Int32) (M : jM) (e3 : Int32) (Me : jM), rec x1 x2 x3 M = some (e3, Me) → jJ Γ GM RM 110 [(0, .ref (jad Γ 0)), (1, .int x1), (2, .int x2), (3, .int e3)] [] Me Q → jJ Γ GM RM 52 [(0, .ref (jad Γ 0)), (1, .int x1), (2, .int x2), (3, .int x3)] [] M Q) (x1 : Int32) (x2 : Int32) (x3 : Int32) (M : jM) (e3 : Int32) (Me : jM) (h : f_X6_reach_L52_b rec x1 x2 x3 M = some (e3, Me)) (hK : jJ Γ GM RM 110 [(0, .ref (jad Γ 0)), (1, .int x1), (2, .int x2), (3, .int e3)] [] Me Q) : jJ Γ GM RM 52 [(0, .ref (jad Γ 0)), (1, .int x1), (2, .int x2), (3, .int x3)] [] M Q := by
  unfold f_X6_reach_L52_b at h
  refine j_iload_n 3 (pc' := 53) hC dX6_reach_52 rfl rfl ?_
  refine j_aload_n 0 (pc' := 54) hC dX6_reach_53 rfl rfl ?_
  refine j_geti' (pc' := 57) hC dX6_reach_54 rfl fi_X6_159 gm0 ?_
  refine j_icmp_ge (tgt := 110) (pc' := 60) hC dX6_reach_57 (by decide) rfl (fun c1 => ?_) (fun c1 => ?_)
  · have h := jit_t c1 h
    obtain ⟨q0, q1⟩ := jinj2 h
    subst q0
    subst q1
    refine j_sub [0, 1, 2, 3] rfl ?_
    exact hK
  · have h := jit_f c1 h
    refine j_iconst (v := -1) (pc' := 61) hC dX6_reach_60 rfl rfl ?_
    refine j_istore (pc' := 63) hC dX6_reach_61 rfl rfl (by decide) rfl ?_
    refine j_sub [1, 2, 3, 4, 0] rfl ?_
    obtain ⟨v2, M3, hm4, h⟩ := jb2_s h
    refine lp_X6_reach_L63 hC  jfu x1 x2 x3 (-1 : Int32) M v2 M3 hm4 ?_
    obtain ⟨v5, ev5, h⟩ := jlet_s h
    refine j_iinc' 3 (c := 1) (pc' := 107) hC dX6_reach_104 rfl rfl rfl ev5 (by decide) rfl ?_
    refine j_goto (tgt := 52) (pc' := 0) hC dX6_reach_107 (by decide) ?_
    refine j_sub [1, 2, 3, 0] rfl ?_
    exact ih _ _ _ _ _ _ h hK
theorem lp_X6_reach_L52 {Γ : jG} (hC : jOK Γ cX6_reach 5 RX6 (none) { frames := 5, cells := 0, slots := 0, locals := 116 }) {Q : State → Prop} : ∀ (n : Nat) (x1 : Int32) (x2 : Int32) (x3 : Int32) (M : jM) (e3 : Int32) (Me : jM), f_X6_reach_L52 n x1 x2 x3 M = some (e3, Me) → jJ Γ GM RM 110 [(0, .ref (jad Γ 0)), (1, .int x1), (2, .int x2), (3, .int e3)] [] Me Q → jJ Γ GM RM 52 [(0, .ref (jad Γ 0)), (1, .int x1), (2, .int x2), (3, .int x3)] [] M Q := by
  intro n
  induction n with
  | zero =>
    intro x1 x2 x3 M e3 Me h hK
    exact jno h
  | succ n ih =>
    intro x1 x2 x3 M e3 Me h hK
    exact lp_X6_reach_L52_b hC (f_X6_reach_L52 n) ih x1 x2 x3 M e3 Me h hK
theorem lp_X6_reach_L34_b {Γ : jG} (hC : jOK Γ cX6_reach 5 RX6 (none) { frames := 5, cells := 0, slots := 0, locals := 116 }) {Q : State → Prop} (rec : Int32 → Int32 → jM → Option (Int32 × jM)) (ih : ∀ (x1 : Int32) (x2 : Int32) (M : jM) (e2 : Int32) (Me : jM), rec x1 x2 M = some (e2, Me) → jJ Γ GM RM 116 [(0, .ref (jad Γ 0)), (1, .int x1), (2, .int e2)] [] Me Q → jJ Γ GM RM 34 [(0, .ref (jad Γ 0)), (1, .int x1), (2, .int x2)] [] M Q) (x1 : Int32) (x2 : Int32) (M : jM) (e2 : Int32) (Me : jM) (h : f_X6_reach_L34_b rec x1 x2 M = some (e2, Me)) (hK : jJ Γ GM RM 116 [(0, .ref (jad Γ 0)), (1, .int x1), (2, .int e2)] [] Me Q) : jJ Γ GM RM 34 [(0, .ref (jad Γ 0)), (1, .int x1), (2, .int x2)] [] M Q := by
  unfold f_X6_reach_L34_b at h
  refine j_iload_n 2 (pc' := 35) hC dX6_reach_34 rfl rfl ?_
  refine j_sipush (v := 24576) (pc' := 38) hC dX6_reach_35 rfl rfl ?_
  refine j_icmp_ge (tgt := 116) (pc' := 41) hC dX6_reach_38 (by decide) rfl (fun c1 => ?_) (fun c1 => ?_)
  · have h := jit_t c1 h
    obtain ⟨q0, q1⟩ := jinj2 h
    subst q0
    subst q1
    refine j_sub [0, 1, 2] rfl ?_
    exact hK
  · have h := jit_f c1 h
    refine j_aload_n 0 (pc' := 42) hC dX6_reach_41 rfl rfl ?_
    refine j_getr' (o2 := 20) (pc' := 45) hC dX6_reach_42 rfl fi_X6_72 gm0 rfl ?_
    refine j_iload_n 2 (pc' := 46) hC dX6_reach_45 rfl rfl ?_
    obtain ⟨g2, h⟩ := jg_s h
    refine j_zald (pc' := 47) hC dX6_reach_46 rfl gm20 g2 ?_
    obtain ⟨M7, hm9, h⟩ := jb1_s h
    have K8 : jJ Γ GM RM 110 [(0, .ref (jad Γ 0)), (1, .int x1), (2, .int x2)] [] M7 Q := by
      obtain ⟨v14, ev14, h⟩ := jlet_s h
      refine j_iinc' 2 (c := 1) (pc' := 113) hC dX6_reach_110 rfl rfl rfl ev14 (by decide) rfl ?_
      refine j_goto (tgt := 34) (pc' := 0) hC dX6_reach_113 (by decide) ?_
      refine j_sub [1, 2, 0] rfl ?_
      exact ih _ _ _ _ _ h hK
    refine j_if_eq (tgt := 110) (pc' := 50) hC dX6_reach_47 (by decide) rfl (fun c10 => ?_) (fun c10 => ?_)
    · have hm9 := jit_t c10 hm9
      have q8 := jinj1 hm9
      subst q8
      exact j_sub [0, 1, 2] rfl K8
    · have hm9 := jit_f c10 hm9
      refine j_iconst (v := 0) (pc' := 51) hC dX6_reach_50 rfl rfl ?_
      refine j_istore_n (pc' := 52) hC dX6_reach_51 rfl rfl (by decide) rfl ?_
      refine j_sub [1, 2, 3, 0] rfl ?_
      obtain ⟨v11, M12, hm13, hm9⟩ := jb2_s hm9
      refine lp_X6_reach_L52 hC  jfu x1 x2 (0 : Int32) M v11 M12 hm13 ?_
      have q8 := jinj1 hm9
      subst q8
      exact j_sub [0, 1, 2] rfl K8
theorem lp_X6_reach_L34 {Γ : jG} (hC : jOK Γ cX6_reach 5 RX6 (none) { frames := 5, cells := 0, slots := 0, locals := 116 }) {Q : State → Prop} : ∀ (n : Nat) (x1 : Int32) (x2 : Int32) (M : jM) (e2 : Int32) (Me : jM), f_X6_reach_L34 n x1 x2 M = some (e2, Me) → jJ Γ GM RM 116 [(0, .ref (jad Γ 0)), (1, .int x1), (2, .int e2)] [] Me Q → jJ Γ GM RM 34 [(0, .ref (jad Γ 0)), (1, .int x1), (2, .int x2)] [] M Q := by
  intro n
  induction n with
  | zero =>
    intro x1 x2 M e2 Me h hK
    exact jno h
  | succ n ih =>
    intro x1 x2 M e2 Me h hK
    exact lp_X6_reach_L34_b hC (f_X6_reach_L34 n) ih x1 x2 M e2 Me h hK
theorem t_X6_reach (l : Launch) (E : jE) {a1 : Int32} {M : jM} {M' : jM} (h : f_X6_reach a1 M = some M') : jCv l yX6_reach cX6_reach 5 (none) 5 116 E RM GM (fun a _ => [.ref (a 0), .int a1]) M M' := by
  refine jCv_of (own := RX6) (by decide) rfl (fun _ _ => Nat.le_of_ble_eq_true rfl) ?_
  intro Γ hC
  show jJ Γ GM RM 0 [(0, .ref (jad Γ 0)), (1, .int a1)] [] M (jQv Γ RM GM M')
  unfold f_X6_reach at h
  refine j_iconst (v := 0) (pc' := 1) hC dX6_reach_0 rfl rfl ?_
  refine j_istore_n (pc' := 2) hC dX6_reach_1 rfl rfl (by decide) rfl ?_
  refine j_sub [1, 2, 0] rfl ?_
  obtain ⟨v1, M2, hm3, h⟩ := jb2_s h
  refine lp_X6_reach_L2 hC a1 jfu (0 : Int32) M v1 M2 hm3 ?_
  refine j_aload_n 0 (pc' := 23) hC dX6_reach_22 rfl rfl ?_
  refine j_getr' (o2 := 20) (pc' := 26) hC dX6_reach_23 rfl fi_X6_72 gm0 rfl ?_
  refine j_aload_n 0 (pc' := 27) hC dX6_reach_26 rfl rfl ?_
  obtain ⟨r4, hc5, h⟩ := jb1_s h
  refine j_callVi [] (pc' := 30) hC dX6_reach_27 rfl (t_X6_begin _ _ hc5) gm0 vcl6 cv_X6_243 ⟨⟨Nat.le_of_ble_eq_true rfl, Nat.le_of_ble_eq_true rfl⟩, rfl, Nat.le_of_ble_eq_true rfl⟩ rfl rfl ?_
  refine j_iconst (v := 1) (pc' := 31) hC dX6_reach_30 rfl rfl ?_
  obtain ⟨g6, h⟩ := jg_s h
  obtain ⟨M7, eM7, h⟩ := jlet_s h
  refine j_zast' (pc' := 32) hC dX6_reach_31 rfl gm20 g6 eM7 ?_
  refine j_iconst (v := 0) (pc' := 33) hC dX6_reach_32 rfl rfl ?_
  refine j_istore_n (pc' := 34) hC dX6_reach_33 rfl rfl (by decide) rfl ?_
  refine j_sub [1, 2, 0] rfl ?_
  obtain ⟨v8, M9, hm10, h⟩ := jb2_s h
  refine lp_X6_reach_L34 hC  jfu a1 (0 : Int32) M7 v8 M9 hm10 ?_
  have q8 := jinj1 h
  subst q8
  exact j_vret hC dX6_reach_116
theorem lp_X6_findMosts_L22_b {Γ : jG} (hC : jOK Γ cX6_findMosts 6 RX6 (none) { frames := 1, cells := 0, slots := 0, locals := 22 }) {Q : State → Prop} (rec : Int32 → Int32 → Int32 → jM → Option (Int32 × jM)) (ih : ∀ (x1 : Int32) (x2 : Int32) (x3 : Int32) (M : jM) (e3 : Int32) (Me : jM), rec x1 x2 x3 M = some (e3, Me) → jJ Γ GM RM 117 [(0, .ref (jad Γ 0)), (1, .int x1), (2, .int x2), (3, .int e3)] [] Me Q → jJ Γ GM RM 22 [(0, .ref (jad Γ 0)), (1, .int x1), (2, .int x2), (3, .int x3)] [] M Q) (x1 : Int32) (x2 : Int32) (x3 : Int32) (M : jM) (e3 : Int32) (Me : jM) (h : f_X6_findMosts_L22_b rec x1 x2 x3 M = some (e3, Me)) (hK : jJ Γ GM RM 117 [(0, .ref (jad Γ 0)), (1, .int x1), (2, .int x2), (3, .int e3)] [] Me Q) : jJ Γ GM RM 22 [(0, .ref (jad Γ 0)), (1, .int x1), (2, .int x2), (3, .int x3)] [] M Q := by
  unfold f_X6_findMosts_L22_b at h
  refine j_iload_n 3 (pc' := 23) hC dX6_findMosts_22 rfl rfl ?_
  refine j_sipush (v := 192) (pc' := 26) hC dX6_findMosts_23 rfl rfl ?_
  refine j_iload_n 2 (pc' := 27) hC dX6_findMosts_26 rfl rfl ?_
  refine j_imul (pc' := 28) hC dX6_findMosts_27 rfl ?_
  refine j_sipush (v := 192) (pc' := 31) hC dX6_findMosts_28 rfl rfl ?_
  refine j_iadd (pc' := 32) hC dX6_findMosts_31 rfl ?_
  refine j_icmp_ge (tgt := 117) (pc' := 35) hC dX6_findMosts_32 (by decide) rfl (fun c1 => ?_) (fun c1 => ?_)
  · have h := jit_t c1 h
    obtain ⟨q0, q1⟩ := jinj2 h
    subst q0
    subst q1
    refine j_sub [0, 1, 2, 3] rfl ?_
    exact hK
  · have h := jit_f c1 h
    refine j_iload_n 3 (pc' := 36) hC dX6_findMosts_35 rfl rfl ?_
    refine j_iconst (v := 3) (pc' := 37) hC dX6_findMosts_36 rfl rfl ?_
    refine j_idiv (pc' := 38) hC dX6_findMosts_37 rfl (by decide) ?_
    refine j_bipush (v := 64) (pc' := 40) hC dX6_findMosts_38 rfl rfl ?_
    refine j_irem (pc' := 41) hC dX6_findMosts_40 rfl (by decide) ?_
    obtain ⟨v2, ev2, h⟩ := jlet_s h
    refine j_istore (pc' := 43) hC dX6_findMosts_41 rfl ev2 (by decide) rfl ?_
    refine j_aload_n 1 (pc' := 44) hC dX6_findMosts_43 rfl rfl ?_
    refine j_getr' (o2 := 20) (pc' := 47) hC dX6_findMosts_44 rfl fi_X6_72 gm0 rfl ?_
    refine j_iload_n 4 (pc' := 48) hC dX6_findMosts_47 rfl rfl ?_
    obtain ⟨g3, h⟩ := jg_s h
    refine j_zald (pc' := 49) hC dX6_findMosts_48 rfl gm20 g3 ?_
    obtain ⟨v9, hm11, h⟩ := jb1_s h
    have K10 : jJ Γ GM RM 70 [(0, .ref (jad Γ 0)), (1, .int x1), (2, .int x2), (3, .int x3), (4, .int v2)] [.int v9] M Q := by
      refine j_istore (pc' := 72) hC dX6_findMosts_70 rfl rfl (by decide) rfl ?_
      refine j_aload_n 1 (pc' := 73) hC dX6_findMosts_72 rfl rfl ?_
      refine j_getr' (o2 := 22) (pc' := 76) hC dX6_findMosts_73 rfl fi_X6_78 gm0 rfl ?_
      refine j_iload_n 3 (pc' := 77) hC dX6_findMosts_76 rfl rfl ?_
      refine j_iload 0 (pc' := 79) hC dX6_findMosts_77 rfl rfl ?_
      obtain ⟨v26, hm28, h⟩ := jb1_s h
      have K27 : jJ Γ GM RM 110 [(0, .ref (jad Γ 0)), (1, .int x1), (2, .int x2), (3, .int x3), (4, .int v2), (5, .int v9)] [.int v26, .int x2, .ref (jad Γ 22)] M Q := by
        obtain ⟨g38, h⟩ := jg_s h
        obtain ⟨M39, eM39, h⟩ := jlet_s h
        refine j_iast' (pc' := 111) hC dX6_findMosts_110 rfl gm22 g38 eM39 ?_
        obtain ⟨v40, ev40, h⟩ := jlet_s h
        refine j_iinc' 3 (c := 1) (pc' := 114) hC dX6_findMosts_111 rfl rfl rfl ev40 (by decide) rfl ?_
        refine j_goto (tgt := 22) (pc' := 0) hC dX6_findMosts_114 (by decide) ?_
        refine j_sub [1, 2, 3, 0] rfl ?_
        exact ih _ _ _ _ _ _ h hK
      refine j_if_eq (tgt := 104) (pc' := 82) hC dX6_findMosts_79 (by decide) rfl (fun c29 => ?_) (fun c29 => ?_)
      · have hm28 := jit_t c29 hm28
        refine j_aload_n 1 (pc' := 105) hC dX6_findMosts_104 rfl rfl ?_
        refine j_getr' (o2 := 22) (pc' := 108) hC dX6_findMosts_105 rfl fi_X6_78 gm0 rfl ?_
        refine j_iload_n 3 (pc' := 109) hC dX6_findMosts_108 rfl rfl ?_
        obtain ⟨g30, hm28⟩ := jg_s hm28
        refine j_iald (pc' := 110) hC dX6_findMosts_109 rfl gm22 g30 ?_
        have q8 := jinj1 hm28
        subst q8
        exact j_sub [1, 2, 3, 4, 5, 0] rfl K27
      · have hm28 := jit_f c29 hm28
        refine j_iload 5 (pc' := 84) hC dX6_findMosts_82 rfl rfl ?_
        obtain ⟨r31, hc32, hm28⟩ := jb1_s hm28
        refine j_callSi [.int v2] (pc' := 87) hC dX6_findMosts_84 rfl (t_X6_ones _ _ hc32) cs_X6_200 ⟨⟨Nat.le_of_ble_eq_true rfl, Nat.le_of_ble_eq_true rfl⟩, rfl, Nat.le_of_ble_eq_true rfl⟩ rfl rfl ?_
        refine j_aload_n 1 (pc' := 88) hC dX6_findMosts_87 rfl rfl ?_
        refine j_getr' (o2 := 22) (pc' := 91) hC dX6_findMosts_88 rfl fi_X6_78 gm0 rfl ?_
        refine j_iload_n 3 (pc' := 92) hC dX6_findMosts_91 rfl rfl ?_
        obtain ⟨g33, hm28⟩ := jg_s hm28
        refine j_iald (pc' := 93) hC dX6_findMosts_92 rfl gm22 g33 ?_
        refine j_icmp_le (tgt := 104) (pc' := 96) hC dX6_findMosts_93 (by decide) rfl (fun c34 => ?_) (fun c34 => ?_)
        · have hm28 := jit_t c34 hm28
          refine j_aload_n 1 (pc' := 105) hC dX6_findMosts_104 rfl rfl ?_
          refine j_getr' (o2 := 22) (pc' := 108) hC dX6_findMosts_105 rfl fi_X6_78 gm0 rfl ?_
          refine j_iload_n 3 (pc' := 109) hC dX6_findMosts_108 rfl rfl ?_
          obtain ⟨g35, hm28⟩ := jg_s hm28
          refine j_iald (pc' := 110) hC dX6_findMosts_109 rfl gm22 g35 ?_
          have q8 := jinj1 hm28
          subst q8
          exact j_sub [1, 2, 3, 4, 5, 0] rfl K27
        · have hm28 := jit_f c34 hm28
          refine j_iload 5 (pc' := 98) hC dX6_findMosts_96 rfl rfl ?_
          obtain ⟨r36, hc37, hm28⟩ := jb1_s hm28
          refine j_callSi [.int v2] (pc' := 101) hC dX6_findMosts_98 rfl (t_X6_ones _ _ hc37) cs_X6_200 ⟨⟨Nat.le_of_ble_eq_true rfl, Nat.le_of_ble_eq_true rfl⟩, rfl, Nat.le_of_ble_eq_true rfl⟩ rfl rfl ?_
          refine j_goto (tgt := 110) (pc' := 0) hC dX6_findMosts_101 (by decide) ?_
          have q8 := jinj1 hm28
          subst q8
          exact j_sub [1, 2, 3, 4, 5, 0] rfl K27
    refine j_if_eq (tgt := 69) (pc' := 52) hC dX6_findMosts_49 (by decide) rfl (fun c12 => ?_) (fun c12 => ?_)
    · have hm11 := jit_t c12 hm11
      refine j_iconst (v := 0) (pc' := 70) hC dX6_findMosts_69 rfl rfl ?_
      have q8 := jinj1 hm11
      subst q8
      exact j_sub [1, 2, 3, 4, 0] rfl K10
    · have hm11 := jit_f c12 hm11
      refine j_iload_n 2 (pc' := 53) hC dX6_findMosts_52 rfl rfl ?_
      refine j_if_lt (tgt := 65) (pc' := 56) hC dX6_findMosts_53 (by decide) rfl (fun c13 => ?_) (fun c13 => ?_)
      · have hm11 := jit_t c13 hm11
        refine j_iconst (v := 1) (pc' := 66) hC dX6_findMosts_65 rfl rfl ?_
        refine j_goto (tgt := 70) (pc' := 0) hC dX6_findMosts_66 (by decide) ?_
        have q8 := jinj1 hm11
        subst q8
        exact j_sub [1, 2, 3, 4, 0] rfl K10
      · have hm11 := jit_f c13 hm11
        refine j_iload 0 (pc' := 58) hC dX6_findMosts_56 rfl rfl ?_
        refine j_iload_n 2 (pc' := 59) hC dX6_findMosts_58 rfl rfl ?_
        obtain ⟨r14, hc15, hm11⟩ := jb1_s hm11
        refine j_callSi [.int v2, .int x1] (pc' := 62) hC dX6_findMosts_59 rfl (t_X6_has _ _ hc15) cs_X6_136 ⟨⟨Nat.le_of_ble_eq_true rfl, Nat.le_of_ble_eq_true rfl⟩, rfl, Nat.le_of_ble_eq_true rfl⟩ rfl rfl ?_
        refine j_if_eq (tgt := 69) (pc' := 65) hC dX6_findMosts_62 (by decide) rfl (fun c16 => ?_) (fun c16 => ?_)
        · have hm11 := jit_t c16 hm11
          refine j_iconst (v := 0) (pc' := 70) hC dX6_findMosts_69 rfl rfl ?_
          have q8 := jinj1 hm11
          subst q8
          exact j_sub [1, 2, 3, 4, 0] rfl K10
        · have hm11 := jit_f c16 hm11
          refine j_iconst (v := 1) (pc' := 66) hC dX6_findMosts_65 rfl rfl ?_
          refine j_goto (tgt := 70) (pc' := 0) hC dX6_findMosts_66 (by decide) ?_
          have q8 := jinj1 hm11
          subst q8
          exact j_sub [1, 2, 3, 4, 0] rfl K10
theorem lp_X6_findMosts_L22 {Γ : jG} (hC : jOK Γ cX6_findMosts 6 RX6 (none) { frames := 1, cells := 0, slots := 0, locals := 22 }) {Q : State → Prop} : ∀ (n : Nat) (x1 : Int32) (x2 : Int32) (x3 : Int32) (M : jM) (e3 : Int32) (Me : jM), f_X6_findMosts_L22 n x1 x2 x3 M = some (e3, Me) → jJ Γ GM RM 117 [(0, .ref (jad Γ 0)), (1, .int x1), (2, .int x2), (3, .int e3)] [] Me Q → jJ Γ GM RM 22 [(0, .ref (jad Γ 0)), (1, .int x1), (2, .int x2), (3, .int x3)] [] M Q := by
  intro n
  induction n with
  | zero =>
    intro x1 x2 x3 M e3 Me h hK
    exact jno h
  | succ n ih =>
    intro x1 x2 x3 M e3 Me h hK
    exact lp_X6_findMosts_L22_b hC (f_X6_findMosts_L22 n) ih x1 x2 x3 M e3 Me h hK
theorem lp_X6_findMosts_L2_b {Γ : jG} (hC : jOK Γ cX6_findMosts 6 RX6 (none) { frames := 1, cells := 0, slots := 0, locals := 22 }) {Q : State → Prop} (rec : Int32 → Int32 → jM → Option (Int32 × jM)) (ih : ∀ (x1 : Int32) (x2 : Int32) (M : jM) (e2 : Int32) (Me : jM), rec x1 x2 M = some (e2, Me) → jJ Γ GM RM 123 [(0, .ref (jad Γ 0)), (1, .int x1), (2, .int e2)] [] Me Q → jJ Γ GM RM 2 [(0, .ref (jad Γ 0)), (1, .int x1), (2, .int x2)] [] M Q) (x1 : Int32) (x2 : Int32) (M : jM) (e2 : Int32) (Me : jM) (h : f_X6_findMosts_L2_b rec x1 x2 M = some (e2, Me)) (hK : jJ Γ GM RM 123 [(0, .ref (jad Γ 0)), (1, .int x1), (2, .int e2)] [] Me Q) : jJ Γ GM RM 2 [(0, .ref (jad Γ 0)), (1, .int x1), (2, .int x2)] [] M Q := by
  unfold f_X6_findMosts_L2_b at h
  refine j_iload_n 2 (pc' := 3) hC dX6_findMosts_2 rfl rfl ?_
  refine j_sipush (v := 128) (pc' := 6) hC dX6_findMosts_3 rfl rfl ?_
  refine j_icmp_ge (tgt := 123) (pc' := 9) hC dX6_findMosts_6 (by decide) rfl (fun c1 => ?_) (fun c1 => ?_)
  · have h := jit_t c1 h
    obtain ⟨q0, q1⟩ := jinj2 h
    subst q0
    subst q1
    refine j_sub [0, 1, 2] rfl ?_
    exact hK
  · have h := jit_f c1 h
    refine j_aload_n 0 (pc' := 10) hC dX6_findMosts_9 rfl rfl ?_
    refine j_getr' (o2 := 22) (pc' := 13) hC dX6_findMosts_10 rfl fi_X6_78 gm0 rfl ?_
    refine j_iload_n 2 (pc' := 14) hC dX6_findMosts_13 rfl rfl ?_
    refine j_iconst (v := -1) (pc' := 15) hC dX6_findMosts_14 rfl rfl ?_
    obtain ⟨g2, h⟩ := jg_s h
    obtain ⟨M3, eM3, h⟩ := jlet_s h
    refine j_iast' (pc' := 16) hC dX6_findMosts_15 rfl gm22 g2 eM3 ?_
    refine j_sipush (v := 192) (pc' := 19) hC dX6_findMosts_16 rfl rfl ?_
    refine j_iload_n 2 (pc' := 20) hC dX6_findMosts_19 rfl rfl ?_
    refine j_imul (pc' := 21) hC dX6_findMosts_20 rfl ?_
    obtain ⟨v4, ev4, h⟩ := jlet_s h
    refine j_istore_n (pc' := 22) hC dX6_findMosts_21 rfl ev4 (by decide) rfl ?_
    refine j_sub [1, 2, 3, 0] rfl ?_
    obtain ⟨v5, M6, hm7, h⟩ := jb2_s h
    refine lp_X6_findMosts_L22 hC  jfu x1 x2 v4 M3 v5 M6 hm7 ?_
    obtain ⟨v8, ev8, h⟩ := jlet_s h
    refine j_iinc' 2 (c := 1) (pc' := 120) hC dX6_findMosts_117 rfl rfl rfl ev8 (by decide) rfl ?_
    refine j_goto (tgt := 2) (pc' := 0) hC dX6_findMosts_120 (by decide) ?_
    refine j_sub [1, 2, 0] rfl ?_
    exact ih _ _ _ _ _ h hK
theorem lp_X6_findMosts_L2 {Γ : jG} (hC : jOK Γ cX6_findMosts 6 RX6 (none) { frames := 1, cells := 0, slots := 0, locals := 22 }) {Q : State → Prop} : ∀ (n : Nat) (x1 : Int32) (x2 : Int32) (M : jM) (e2 : Int32) (Me : jM), f_X6_findMosts_L2 n x1 x2 M = some (e2, Me) → jJ Γ GM RM 123 [(0, .ref (jad Γ 0)), (1, .int x1), (2, .int e2)] [] Me Q → jJ Γ GM RM 2 [(0, .ref (jad Γ 0)), (1, .int x1), (2, .int x2)] [] M Q := by
  intro n
  induction n with
  | zero =>
    intro x1 x2 M e2 Me h hK
    exact jno h
  | succ n ih =>
    intro x1 x2 M e2 Me h hK
    exact lp_X6_findMosts_L2_b hC (f_X6_findMosts_L2 n) ih x1 x2 M e2 Me h hK
theorem t_X6_findMosts (l : Launch) (E : jE) {a1 : Int32} {M : jM} {M' : jM} (h : f_X6_findMosts a1 M = some M') : jCv l yX6_findMosts cX6_findMosts 6 (none) 1 22 E RM GM (fun a _ => [.ref (a 0), .int a1]) M M' := by
  refine jCv_of (own := RX6) (by decide) rfl (fun _ _ => Nat.le_of_ble_eq_true rfl) ?_
  intro Γ hC
  show jJ Γ GM RM 0 [(0, .ref (jad Γ 0)), (1, .int a1)] [] M (jQv Γ RM GM M')
  unfold f_X6_findMosts at h
  refine j_iconst (v := 0) (pc' := 1) hC dX6_findMosts_0 rfl rfl ?_
  refine j_istore_n (pc' := 2) hC dX6_findMosts_1 rfl rfl (by decide) rfl ?_
  refine j_sub [1, 2, 0] rfl ?_
  obtain ⟨v1, M2, hm3, h⟩ := jb2_s h
  refine lp_X6_findMosts_L2 hC  jfu a1 (0 : Int32) M v1 M2 hm3 ?_
  have q8 := jinj1 h
  subst q8
  exact j_vret hC dX6_findMosts_123
theorem lp_X6_mostOf_L4_b {Γ : jG} (hC : jOK Γ cX6_mostOf 4 RX6 (some .int) { frames := 0, cells := 0, slots := 0, locals := 0 }) {Q : State → Prop} (rec : Int32 → Int32 → Int32 → jM → Option (Int32 × Int32)) (ih : ∀ (x1 : Int32) (x2 : Int32) (x3 : Int32) (M : jM) (e2 : Int32) (e3 : Int32), rec x1 x2 x3 M = some (e2, e3) → jJ Γ GM RM 46 [(0, .ref (jad Γ 0)), (1, .int x1), (2, .int e2), (3, .int e3)] [] M Q → jJ Γ GM RM 4 [(0, .ref (jad Γ 0)), (1, .int x1), (2, .int x2), (3, .int x3)] [] M Q) (x1 : Int32) (x2 : Int32) (x3 : Int32) (M : jM) (e2 : Int32) (e3 : Int32) (h : f_X6_mostOf_L4_b rec x1 x2 x3 M = some (e2, e3)) (hK : jJ Γ GM RM 46 [(0, .ref (jad Γ 0)), (1, .int x1), (2, .int e2), (3, .int e3)] [] M Q) : jJ Γ GM RM 4 [(0, .ref (jad Γ 0)), (1, .int x1), (2, .int x2), (3, .int x3)] [] M Q := by
  unfold f_X6_mostOf_L4_b at h
  refine j_iload_n 3 (pc' := 5) hC dX6_mostOf_4 rfl rfl ?_
  refine j_sipush (v := 128) (pc' := 8) hC dX6_mostOf_5 rfl rfl ?_
  refine j_icmp_ge (tgt := 46) (pc' := 11) hC dX6_mostOf_8 (by decide) rfl (fun c1 => ?_) (fun c1 => ?_)
  · have h := jit_t c1 h
    obtain ⟨q0, q1⟩ := jinj2 h
    subst q0
    subst q1
    refine j_sub [0, 1, 2, 3] rfl ?_
    exact hK
  · have h := jit_f c1 h
    refine j_iload_n 3 (pc' := 12) hC dX6_mostOf_11 rfl rfl ?_
    refine j_iload_n 1 (pc' := 13) hC dX6_mostOf_12 rfl rfl ?_
    refine j_iconst (v := -1) (pc' := 14) hC dX6_mostOf_13 rfl rfl ?_
    refine j_ixor (pc' := 15) hC dX6_mostOf_14 rfl ?_
    refine j_iand (pc' := 16) hC dX6_mostOf_15 rfl ?_
    obtain ⟨v6, hm8, h⟩ := jb1_s h
    have K7 : jJ Γ GM RM 39 [(0, .ref (jad Γ 0)), (1, .int x1), (2, .int x2), (3, .int x3)] [.int v6] M Q := by
      refine j_istore_n (pc' := 40) hC dX6_mostOf_39 rfl rfl (by decide) rfl ?_
      obtain ⟨v13, ev13, h⟩ := jlet_s h
      refine j_iinc' 3 (c := 1) (pc' := 43) hC dX6_mostOf_40 rfl rfl rfl ev13 (by decide) rfl ?_
      refine j_goto (tgt := 4) (pc' := 0) hC dX6_mostOf_43 (by decide) ?_
      refine j_sub [2, 3, 1, 0] rfl ?_
      exact ih _ _ _ _ _ _ h hK
    refine j_if_ne (tgt := 38) (pc' := 19) hC dX6_mostOf_16 (by decide) rfl (fun c9 => ?_) (fun c9 => ?_)
    · have hm8 := jit_f c9 hm8
      refine j_iload_n 2 (pc' := 39) hC dX6_mostOf_38 rfl rfl ?_
      have q8 := jinj1 hm8
      subst q8
      exact j_sub [0, 1, 2, 3] rfl K7
    · have hm8 := jit_t c9 hm8
      refine j_aload_n 0 (pc' := 20) hC dX6_mostOf_19 rfl rfl ?_
      refine j_getr' (o2 := 22) (pc' := 23) hC dX6_mostOf_20 rfl fi_X6_78 gm0 rfl ?_
      refine j_iload_n 3 (pc' := 24) hC dX6_mostOf_23 rfl rfl ?_
      obtain ⟨g10, hm8⟩ := jg_s hm8
      refine j_iald (pc' := 25) hC dX6_mostOf_24 rfl gm22 g10 ?_
      refine j_iload_n 2 (pc' := 26) hC dX6_mostOf_25 rfl rfl ?_
      refine j_icmp_le (tgt := 38) (pc' := 29) hC dX6_mostOf_26 (by decide) rfl (fun c11 => ?_) (fun c11 => ?_)
      · have hm8 := jit_t c11 hm8
        refine j_iload_n 2 (pc' := 39) hC dX6_mostOf_38 rfl rfl ?_
        have q8 := jinj1 hm8
        subst q8
        exact j_sub [0, 1, 2, 3] rfl K7
      · have hm8 := jit_f c11 hm8
        refine j_aload_n 0 (pc' := 30) hC dX6_mostOf_29 rfl rfl ?_
        refine j_getr' (o2 := 22) (pc' := 33) hC dX6_mostOf_30 rfl fi_X6_78 gm0 rfl ?_
        refine j_iload_n 3 (pc' := 34) hC dX6_mostOf_33 rfl rfl ?_
        obtain ⟨g12, hm8⟩ := jg_s hm8
        refine j_iald (pc' := 35) hC dX6_mostOf_34 rfl gm22 g12 ?_
        refine j_goto (tgt := 39) (pc' := 0) hC dX6_mostOf_35 (by decide) ?_
        have q8 := jinj1 hm8
        subst q8
        exact j_sub [0, 1, 2, 3] rfl K7
theorem lp_X6_mostOf_L4 {Γ : jG} (hC : jOK Γ cX6_mostOf 4 RX6 (some .int) { frames := 0, cells := 0, slots := 0, locals := 0 }) {Q : State → Prop} : ∀ (n : Nat) (x1 : Int32) (x2 : Int32) (x3 : Int32) (M : jM) (e2 : Int32) (e3 : Int32), f_X6_mostOf_L4 n x1 x2 x3 M = some (e2, e3) → jJ Γ GM RM 46 [(0, .ref (jad Γ 0)), (1, .int x1), (2, .int e2), (3, .int e3)] [] M Q → jJ Γ GM RM 4 [(0, .ref (jad Γ 0)), (1, .int x1), (2, .int x2), (3, .int x3)] [] M Q := by
  intro n
  induction n with
  | zero =>
    intro x1 x2 x3 M e2 e3 h hK
    exact jno h
  | succ n ih =>
    intro x1 x2 x3 M e2 e3 h hK
    exact lp_X6_mostOf_L4_b hC (f_X6_mostOf_L4 n) ih x1 x2 x3 M e2 e3 h hK
theorem t_X6_mostOf (l : Launch) (E : jE) {a1 : Int32} {M : jM} {r : Int32} (h : f_X6_mostOf a1 M = some r) : jCi l yX6_mostOf cX6_mostOf 4 (some .int) 0 0 E RM GM (fun a _ => [.ref (a 0), .int a1]) M r M := by
  refine jCi_of (own := RX6) (by decide) rfl (fun _ _ => Nat.le_of_ble_eq_true rfl) ?_
  intro Γ hC
  show jJ Γ GM RM 0 [(0, .ref (jad Γ 0)), (1, .int a1)] [] M (jQi Γ RM GM r M)
  unfold f_X6_mostOf at h
  refine j_iconst (v := -1) (pc' := 1) hC dX6_mostOf_0 rfl rfl ?_
  refine j_istore_n (pc' := 2) hC dX6_mostOf_1 rfl rfl (by decide) rfl ?_
  refine j_iconst (v := 0) (pc' := 3) hC dX6_mostOf_2 rfl rfl ?_
  refine j_istore_n (pc' := 4) hC dX6_mostOf_3 rfl rfl (by decide) rfl ?_
  refine j_sub [2, 3, 1, 0] rfl ?_
  obtain ⟨v1, v2, hm3, h⟩ := jb2_s h
  refine lp_X6_mostOf_L4 hC  jfu a1 (-1 : Int32) (0 : Int32) M v1 v2 hm3 ?_
  refine j_iload_n 2 (pc' := 47) hC dX6_mostOf_46 rfl rfl ?_
  have q8 := jinj1 h
  subst q8
  exact j_iret hC dX6_mostOf_47
theorem lp_X6_most_L44_b {Γ : jG} (hC : jOK Γ cX6_most 5 RX6 (some .int) { frames := 6, cells := 0, slots := 0, locals := 140 }) {Q : State → Prop} (x1 : Int32) (rec : Int32 → Int32 → Int32 → jM → Option (Int32 × Int32)) (ih : ∀ (x2 : Int32) (x3 : Int32) (x4 : Int32) (M : jM) (e3 : Int32) (e4 : Int32), rec x2 x3 x4 M = some (e3, e4) → jJ Γ GM RM 88 [(0, .ref (jad Γ 0)), (1, .int x1), (2, .int x2), (3, .int e3), (4, .int e4)] [] M Q → jJ Γ GM RM 44 [(0, .ref (jad Γ 0)), (1, .int x1), (2, .int x2), (3, .int x3), (4, .int x4)] [] M Q) (x2 : Int32) (x3 : Int32) (x4 : Int32) (M : jM) (e3 : Int32) (e4 : Int32) (h : f_X6_most_L44_b rec x2 x3 x4 M = some (e3, e4)) (hK : jJ Γ GM RM 88 [(0, .ref (jad Γ 0)), (1, .int x1), (2, .int x2), (3, .int e3), (4, .int e4)] [] M Q) : jJ Γ GM RM 44 [(0, .ref (jad Γ 0)), (1, .int x1), (2, .int x2), (3, .int x3), (4, .int x4)] [] M Q := by
  unfold f_X6_most_L44_b at h
  refine j_iload 4 (pc' := 46) hC dX6_most_44 rfl rfl ?_
  refine j_sipush (v := 128) (pc' := 49) hC dX6_most_46 rfl rfl ?_
  refine j_icmp_ge (tgt := 88) (pc' := 52) hC dX6_most_49 (by decide) rfl (fun c1 => ?_) (fun c1 => ?_)
  · have h := jit_t c1 h
    obtain ⟨q0, q1⟩ := jinj2 h
    subst q0
    subst q1
    refine j_sub [0, 1, 2, 3, 4] rfl ?_
    exact hK
  · have h := jit_f c1 h
    refine j_aload_n 0 (pc' := 53) hC dX6_most_52 rfl rfl ?_
    refine j_getr' (o2 := 22) (pc' := 56) hC dX6_most_53 rfl fi_X6_78 gm0 rfl ?_
    refine j_iload 4 (pc' := 58) hC dX6_most_56 rfl rfl ?_
    obtain ⟨g2, h⟩ := jg_s h
    refine j_iald (pc' := 59) hC dX6_most_58 rfl gm22 g2 ?_
    refine j_iload_n 2 (pc' := 60) hC dX6_most_59 rfl rfl ?_
    obtain ⟨v9, hm11, h⟩ := jb1_s h
    have K10 : jJ Γ GM RM 81 [(0, .ref (jad Γ 0)), (1, .int x1), (2, .int x2), (3, .int x3), (4, .int x4)] [.int v9] M Q := by
      refine j_istore_n (pc' := 82) hC dX6_most_81 rfl rfl (by decide) rfl ?_
      obtain ⟨v18, ev18, h⟩ := jlet_s h
      refine j_iinc' 4 (c := 1) (pc' := 85) hC dX6_most_82 rfl rfl rfl ev18 (by decide) rfl ?_
      refine j_goto (tgt := 44) (pc' := 0) hC dX6_most_85 (by decide) ?_
      refine j_sub [2, 3, 4, 1, 0] rfl ?_
      exact ih _ _ _ _ _ _ h hK
    refine j_icmp_ne (tgt := 80) (pc' := 63) hC dX6_most_60 (by decide) rfl (fun c12 => ?_) (fun c12 => ?_)
    · have hm11 := jit_f c12 hm11
      refine j_iload_n 3 (pc' := 81) hC dX6_most_80 rfl rfl ?_
      have q8 := jinj1 hm11
      subst q8
      exact j_sub [0, 1, 2, 3, 4] rfl K10
    · have hm11 := jit_t c12 hm11
      refine j_iload 4 (pc' := 65) hC dX6_most_63 rfl rfl ?_
      obtain ⟨r13, hc14, hm11⟩ := jb1_s hm11
      refine j_callSi [.int x4] (pc' := 68) hC dX6_most_65 rfl (t_X6_ones _ _ hc14) cs_X6_200 ⟨⟨Nat.le_of_ble_eq_true rfl, Nat.le_of_ble_eq_true rfl⟩, rfl, Nat.le_of_ble_eq_true rfl⟩ rfl rfl ?_
      refine j_iload_n 3 (pc' := 69) hC dX6_most_68 rfl rfl ?_
      refine j_icmp_ge (tgt := 80) (pc' := 72) hC dX6_most_69 (by decide) rfl (fun c15 => ?_) (fun c15 => ?_)
      · have hm11 := jit_t c15 hm11
        refine j_iload_n 3 (pc' := 81) hC dX6_most_80 rfl rfl ?_
        have q8 := jinj1 hm11
        subst q8
        exact j_sub [0, 1, 2, 3, 4] rfl K10
      · have hm11 := jit_f c15 hm11
        refine j_iload 4 (pc' := 74) hC dX6_most_72 rfl rfl ?_
        obtain ⟨r16, hc17, hm11⟩ := jb1_s hm11
        refine j_callSi [.int x4] (pc' := 77) hC dX6_most_74 rfl (t_X6_ones _ _ hc17) cs_X6_200 ⟨⟨Nat.le_of_ble_eq_true rfl, Nat.le_of_ble_eq_true rfl⟩, rfl, Nat.le_of_ble_eq_true rfl⟩ rfl rfl ?_
        refine j_goto (tgt := 81) (pc' := 0) hC dX6_most_77 (by decide) ?_
        have q8 := jinj1 hm11
        subst q8
        exact j_sub [0, 1, 2, 3, 4] rfl K10
theorem lp_X6_most_L44 {Γ : jG} (hC : jOK Γ cX6_most 5 RX6 (some .int) { frames := 6, cells := 0, slots := 0, locals := 140 }) {Q : State → Prop} (x1 : Int32) : ∀ (n : Nat) (x2 : Int32) (x3 : Int32) (x4 : Int32) (M : jM) (e3 : Int32) (e4 : Int32), f_X6_most_L44 n x2 x3 x4 M = some (e3, e4) → jJ Γ GM RM 88 [(0, .ref (jad Γ 0)), (1, .int x1), (2, .int x2), (3, .int e3), (4, .int e4)] [] M Q → jJ Γ GM RM 44 [(0, .ref (jad Γ 0)), (1, .int x1), (2, .int x2), (3, .int x3), (4, .int x4)] [] M Q := by
  intro n
  induction n with
  | zero =>
    intro x2 x3 x4 M e3 e4 h hK
    exact jno h
  | succ n ih =>
    intro x2 x3 x4 M e3 e4 h hK
    exact lp_X6_most_L44_b hC x1 (f_X6_most_L44 n) ih x2 x3 x4 M e3 e4 h hK
theorem t_X6_most (l : Launch) (E : jE) {M : jM} {r : Int32} {M' : jM} (h : f_X6_most M = some (r, M')) : jCi l yX6_most cX6_most 5 (some .int) 6 140 E RM GM (fun a _ => [.ref (a 0)]) M r M' := by
  refine jCi_of (own := RX6) (by decide) rfl (fun _ _ => Nat.le_of_ble_eq_true rfl) ?_
  intro Γ hC
  show jJ Γ GM RM 0 [(0, .ref (jad Γ 0))] [] M (jQi Γ RM GM r M')
  unfold f_X6_most at h
  refine j_aload_n 0 (pc' := 1) hC dX6_most_0 rfl rfl ?_
  refine j_geti' (pc' := 4) hC dX6_most_1 rfl fi_X6_156 gm0 ?_
  refine j_if_ne (tgt := 10) (pc' := 7) hC dX6_most_4 (by decide) rfl (fun c1 => ?_) (fun c1 => ?_)
  · have h := jit_f c1 h
    refine j_aload_n 0 (pc' := 11) hC dX6_most_10 rfl rfl ?_
    refine j_aload_n 0 (pc' := 12) hC dX6_most_11 rfl rfl ?_
    refine j_getr' (o2 := 12) (pc' := 15) hC dX6_most_12 rfl fi_X6_43 gm0 rfl ?_
    refine j_iconst (v := 0) (pc' := 16) hC dX6_most_15 rfl rfl ?_
    refine j_iald (pc' := 17) hC dX6_most_16 rfl gm12 (by decide) ?_
    obtain ⟨r2, hc3, h⟩ := jb1_s h
    refine j_callVi [.int (gi M 12 (0 : Int32).toNatClampNeg)] (pc' := 20) hC dX6_most_17 rfl (t_X6_shelfOn _ _ hc3) gm0 vcl6 cv_X6_213 ⟨⟨Nat.le_of_ble_eq_true rfl, Nat.le_of_ble_eq_true rfl⟩, rfl, Nat.le_of_ble_eq_true rfl⟩ rfl rfl ?_
    refine j_istore_n (pc' := 21) hC dX6_most_20 rfl rfl (by decide) rfl ?_
    refine j_aload_n 1 (pc' := 22) hC dX6_most_21 rfl rfl ?_
    refine j_iload_n 0 (pc' := 23) hC dX6_most_22 rfl rfl ?_
    obtain ⟨M4, hc5, h⟩ := jb1_s h
    refine j_callVv [.int r2] (pc' := 26) hC dX6_most_23 rfl (t_X6_reach _ _ hc5) gm0 vcl6 cv_X6_253 ⟨⟨Nat.le_of_ble_eq_true rfl, Nat.le_of_ble_eq_true rfl⟩, rfl, Nat.le_of_ble_eq_true rfl⟩ rfl rfl ?_
    refine j_aload_n 1 (pc' := 27) hC dX6_most_26 rfl rfl ?_
    refine j_bipush (v := -9) (pc' := 29) hC dX6_most_27 rfl rfl ?_
    obtain ⟨M6, hc7, h⟩ := jb1_s h
    refine j_callVv [.int (-9 : Int32)] (pc' := 32) hC dX6_most_29 rfl (t_X6_findMosts _ _ hc7) gm0 vcl6 cv_X6_256 ⟨⟨Nat.le_of_ble_eq_true rfl, Nat.le_of_ble_eq_true rfl⟩, rfl, Nat.le_of_ble_eq_true rfl⟩ rfl rfl ?_
    refine j_aload_n 1 (pc' := 33) hC dX6_most_32 rfl rfl ?_
    refine j_iload_n 0 (pc' := 34) hC dX6_most_33 rfl rfl ?_
    obtain ⟨r8, hc9, h⟩ := jb1_s h
    refine j_callVi [.int r2] (pc' := 37) hC dX6_most_34 rfl (t_X6_mostOf _ _ hc9) gm0 vcl6 cv_X6_259 ⟨⟨Nat.le_of_ble_eq_true rfl, Nat.le_of_ble_eq_true rfl⟩, rfl, Nat.le_of_ble_eq_true rfl⟩ rfl rfl ?_
    refine j_istore_n (pc' := 38) hC dX6_most_37 rfl rfl (by decide) rfl ?_
    refine j_bipush (v := 7) (pc' := 40) hC dX6_most_38 rfl rfl ?_
    refine j_istore_n (pc' := 41) hC dX6_most_40 rfl rfl (by decide) rfl ?_
    refine j_iconst (v := 0) (pc' := 42) hC dX6_most_41 rfl rfl ?_
    refine j_istore (pc' := 44) hC dX6_most_42 rfl rfl (by decide) rfl ?_
    refine j_sub [4, 3, 2, 1, 0] rfl ?_
    obtain ⟨v10, v11, hm12, h⟩ := jb2_s h
    refine lp_X6_most_L44 hC r2 jfu r8 (7 : Int32) (0 : Int32) M6 v10 v11 hm12 ?_
    refine j_aload_n 0 (pc' := 89) hC dX6_most_88 rfl rfl ?_
    refine j_iload_n 2 (pc' := 90) hC dX6_most_89 rfl rfl ?_
    refine j_iload_n 3 (pc' := 91) hC dX6_most_90 rfl rfl ?_
    obtain ⟨r13, M14, hc15, h⟩ := jb2_s h
    refine j_callVi [.int r8, .int v10] (pc' := 94) hC dX6_most_91 rfl (t_X6_answer _ _ hc15) gm0 vcl6 cv_X6_111 ⟨⟨Nat.le_of_ble_eq_true rfl, Nat.le_of_ble_eq_true rfl⟩, rfl, Nat.le_of_ble_eq_true rfl⟩ rfl rfl ?_
    obtain ⟨q0, q1⟩ := jinj2 h
    subst q0
    subst q1
    exact j_iret hC dX6_most_94
  · have h := jit_t c1 h
    refine j_bipush (v := -4) (pc' := 9) hC dX6_most_7 rfl rfl ?_
    obtain ⟨q0, q1⟩ := jinj2 h
    subst q0
    subst q1
    exact j_iret hC dX6_most_9
theorem lp_X6_fewest_L34_b {Γ : jG} (hC : jOK Γ cX6_fewest 4 RX6 (some .int) { frames := 6, cells := 0, slots := 0, locals := 140 }) {Q : State → Prop} (x1 : Int32) (rec : Int32 → Int32 → jM → Option (Int32 × Int32)) (ih : ∀ (x2 : Int32) (x3 : Int32) (M : jM) (e2 : Int32) (e3 : Int32), rec x2 x3 M = some (e2, e3) → jJ Γ GM RM 73 [(0, .ref (jad Γ 0)), (1, .int x1), (2, .int e2), (3, .int e3)] [] M Q → jJ Γ GM RM 34 [(0, .ref (jad Γ 0)), (1, .int x1), (2, .int x2), (3, .int x3)] [] M Q) (x2 : Int32) (x3 : Int32) (M : jM) (e2 : Int32) (e3 : Int32) (h : f_X6_fewest_L34_b rec x2 x3 M = some (e2, e3)) (hK : jJ Γ GM RM 73 [(0, .ref (jad Γ 0)), (1, .int x1), (2, .int e2), (3, .int e3)] [] M Q) : jJ Γ GM RM 34 [(0, .ref (jad Γ 0)), (1, .int x1), (2, .int x2), (3, .int x3)] [] M Q := by
  unfold f_X6_fewest_L34_b at h
  refine j_iload_n 3 (pc' := 35) hC dX6_fewest_34 rfl rfl ?_
  refine j_sipush (v := 128) (pc' := 38) hC dX6_fewest_35 rfl rfl ?_
  refine j_icmp_ge (tgt := 73) (pc' := 41) hC dX6_fewest_38 (by decide) rfl (fun c1 => ?_) (fun c1 => ?_)
  · have h := jit_t c1 h
    obtain ⟨q0, q1⟩ := jinj2 h
    subst q0
    subst q1
    refine j_sub [0, 1, 2, 3] rfl ?_
    exact hK
  · have h := jit_f c1 h
    refine j_aload_n 0 (pc' := 42) hC dX6_fewest_41 rfl rfl ?_
    refine j_getr' (o2 := 22) (pc' := 45) hC dX6_fewest_42 rfl fi_X6_78 gm0 rfl ?_
    refine j_iload_n 3 (pc' := 46) hC dX6_fewest_45 rfl rfl ?_
    obtain ⟨g2, h⟩ := jg_s h
    refine j_iald (pc' := 47) hC dX6_fewest_46 rfl gm22 g2 ?_
    obtain ⟨v9, hm11, h⟩ := jb1_s h
    have K10 : jJ Γ GM RM 66 [(0, .ref (jad Γ 0)), (1, .int x1), (2, .int x2), (3, .int x3)] [.int v9] M Q := by
      refine j_istore_n (pc' := 67) hC dX6_fewest_66 rfl rfl (by decide) rfl ?_
      obtain ⟨v18, ev18, h⟩ := jlet_s h
      refine j_iinc' 3 (c := 1) (pc' := 70) hC dX6_fewest_67 rfl rfl rfl ev18 (by decide) rfl ?_
      refine j_goto (tgt := 34) (pc' := 0) hC dX6_fewest_70 (by decide) ?_
      refine j_sub [2, 3, 1, 0] rfl ?_
      exact ih _ _ _ _ _ h hK
    refine j_if_lt (tgt := 65) (pc' := 50) hC dX6_fewest_47 (by decide) rfl (fun c12 => ?_) (fun c12 => ?_)
    · have hm11 := jit_t c12 hm11
      refine j_iload_n 2 (pc' := 66) hC dX6_fewest_65 rfl rfl ?_
      have q8 := jinj1 hm11
      subst q8
      exact j_sub [0, 1, 2, 3] rfl K10
    · have hm11 := jit_f c12 hm11
      refine j_iload_n 3 (pc' := 51) hC dX6_fewest_50 rfl rfl ?_
      obtain ⟨r13, hc14, hm11⟩ := jb1_s hm11
      refine j_callSi [.int x3] (pc' := 54) hC dX6_fewest_51 rfl (t_X6_ones _ _ hc14) cs_X6_200 ⟨⟨Nat.le_of_ble_eq_true rfl, Nat.le_of_ble_eq_true rfl⟩, rfl, Nat.le_of_ble_eq_true rfl⟩ rfl rfl ?_
      refine j_iload_n 2 (pc' := 55) hC dX6_fewest_54 rfl rfl ?_
      refine j_icmp_ge (tgt := 65) (pc' := 58) hC dX6_fewest_55 (by decide) rfl (fun c15 => ?_) (fun c15 => ?_)
      · have hm11 := jit_t c15 hm11
        refine j_iload_n 2 (pc' := 66) hC dX6_fewest_65 rfl rfl ?_
        have q8 := jinj1 hm11
        subst q8
        exact j_sub [0, 1, 2, 3] rfl K10
      · have hm11 := jit_f c15 hm11
        refine j_iload_n 3 (pc' := 59) hC dX6_fewest_58 rfl rfl ?_
        obtain ⟨r16, hc17, hm11⟩ := jb1_s hm11
        refine j_callSi [.int x3] (pc' := 62) hC dX6_fewest_59 rfl (t_X6_ones _ _ hc17) cs_X6_200 ⟨⟨Nat.le_of_ble_eq_true rfl, Nat.le_of_ble_eq_true rfl⟩, rfl, Nat.le_of_ble_eq_true rfl⟩ rfl rfl ?_
        refine j_goto (tgt := 66) (pc' := 0) hC dX6_fewest_62 (by decide) ?_
        have q8 := jinj1 hm11
        subst q8
        exact j_sub [0, 1, 2, 3] rfl K10
theorem lp_X6_fewest_L34 {Γ : jG} (hC : jOK Γ cX6_fewest 4 RX6 (some .int) { frames := 6, cells := 0, slots := 0, locals := 140 }) {Q : State → Prop} (x1 : Int32) : ∀ (n : Nat) (x2 : Int32) (x3 : Int32) (M : jM) (e2 : Int32) (e3 : Int32), f_X6_fewest_L34 n x2 x3 M = some (e2, e3) → jJ Γ GM RM 73 [(0, .ref (jad Γ 0)), (1, .int x1), (2, .int e2), (3, .int e3)] [] M Q → jJ Γ GM RM 34 [(0, .ref (jad Γ 0)), (1, .int x1), (2, .int x2), (3, .int x3)] [] M Q := by
  intro n
  induction n with
  | zero =>
    intro x2 x3 M e2 e3 h hK
    exact jno h
  | succ n ih =>
    intro x2 x3 M e2 e3 h hK
    exact lp_X6_fewest_L34_b hC x1 (f_X6_fewest_L34 n) ih x2 x3 M e2 e3 h hK
theorem t_X6_fewest (l : Launch) (E : jE) {a1 : Int32} {M : jM} {r : Int32} {M' : jM} (h : f_X6_fewest a1 M = some (r, M')) : jCi l yX6_fewest cX6_fewest 4 (some .int) 6 140 E RM GM (fun a _ => [.ref (a 0), .int a1]) M r M' := by
  refine jCi_of (own := RX6) (by decide) rfl (fun _ _ => Nat.le_of_ble_eq_true rfl) ?_
  intro Γ hC
  show jJ Γ GM RM 0 [(0, .ref (jad Γ 0)), (1, .int a1)] [] M (jQi Γ RM GM r M')
  unfold f_X6_fewest at h
  refine j_aload_n 0 (pc' := 1) hC dX6_fewest_0 rfl rfl ?_
  refine j_iload_n 1 (pc' := 2) hC dX6_fewest_1 rfl rfl ?_
  obtain ⟨r1, hc2, h⟩ := jb1_s h
  refine j_callVi [.int a1] (pc' := 5) hC dX6_fewest_2 rfl (t_X6_isDeed _ _ hc2) gm0 vcl6 cv_X6_168 ⟨⟨Nat.le_of_ble_eq_true rfl, Nat.le_of_ble_eq_true rfl⟩, rfl, Nat.le_of_ble_eq_true rfl⟩ rfl rfl ?_
  refine j_if_ne (tgt := 10) (pc' := 8) hC dX6_fewest_5 (by decide) rfl (fun c3 => ?_) (fun c3 => ?_)
  · have h := jit_f c3 h
    refine j_aload_n 0 (pc' := 11) hC dX6_fewest_10 rfl rfl ?_
    refine j_aload_n 0 (pc' := 12) hC dX6_fewest_11 rfl rfl ?_
    refine j_aload_n 0 (pc' := 13) hC dX6_fewest_12 rfl rfl ?_
    refine j_getr' (o2 := 12) (pc' := 16) hC dX6_fewest_13 rfl fi_X6_43 gm0 rfl ?_
    refine j_iconst (v := 0) (pc' := 17) hC dX6_fewest_16 rfl rfl ?_
    refine j_iald (pc' := 18) hC dX6_fewest_17 rfl gm12 (by decide) ?_
    obtain ⟨r4, hc5, h⟩ := jb1_s h
    refine j_callVi [.int (gi M 12 (0 : Int32).toNatClampNeg)] (pc' := 21) hC dX6_fewest_18 rfl (t_X6_shelfOn _ _ hc5) gm0 vcl6 cv_X6_213 ⟨⟨Nat.le_of_ble_eq_true rfl, Nat.le_of_ble_eq_true rfl⟩, rfl, Nat.le_of_ble_eq_true rfl⟩ rfl rfl ?_
    obtain ⟨M6, hc7, h⟩ := jb1_s h
    refine j_callVv [.int r4] (pc' := 24) hC dX6_fewest_21 rfl (t_X6_reach _ _ hc7) gm0 vcl6 cv_X6_253 ⟨⟨Nat.le_of_ble_eq_true rfl, Nat.le_of_ble_eq_true rfl⟩, rfl, Nat.le_of_ble_eq_true rfl⟩ rfl rfl ?_
    refine j_aload_n 0 (pc' := 25) hC dX6_fewest_24 rfl rfl ?_
    refine j_iload_n 1 (pc' := 26) hC dX6_fewest_25 rfl rfl ?_
    obtain ⟨M8, hc9, h⟩ := jb1_s h
    refine j_callVv [.int a1] (pc' := 29) hC dX6_fewest_26 rfl (t_X6_findMosts _ _ hc9) gm0 vcl6 cv_X6_256 ⟨⟨Nat.le_of_ble_eq_true rfl, Nat.le_of_ble_eq_true rfl⟩, rfl, Nat.le_of_ble_eq_true rfl⟩ rfl rfl ?_
    refine j_bipush (v := 99) (pc' := 31) hC dX6_fewest_29 rfl rfl ?_
    refine j_istore_n (pc' := 32) hC dX6_fewest_31 rfl rfl (by decide) rfl ?_
    refine j_iconst (v := 0) (pc' := 33) hC dX6_fewest_32 rfl rfl ?_
    refine j_istore_n (pc' := 34) hC dX6_fewest_33 rfl rfl (by decide) rfl ?_
    refine j_sub [2, 3, 1, 0] rfl ?_
    obtain ⟨v10, v11, hm12, h⟩ := jb2_s h
    refine lp_X6_fewest_L34 hC a1 jfu (99 : Int32) (0 : Int32) M8 v10 v11 hm12 ?_
    refine j_iload_n 2 (pc' := 74) hC dX6_fewest_73 rfl rfl ?_
    refine j_bipush (v := 99) (pc' := 76) hC dX6_fewest_74 rfl rfl ?_
    refine j_icmp_ne (tgt := 84) (pc' := 79) hC dX6_fewest_76 (by decide) rfl (fun c13 => ?_) (fun c13 => ?_)
    · have h := jit_f c13 h
      refine j_iload_n 2 (pc' := 85) hC dX6_fewest_84 rfl rfl ?_
      obtain ⟨q0, q1⟩ := jinj2 h
      subst q0
      subst q1
      exact j_iret hC dX6_fewest_85
    · have h := jit_t c13 h
      refine j_bipush (v := -9) (pc' := 81) hC dX6_fewest_79 rfl rfl ?_
      refine j_goto (tgt := 85) (pc' := 0) hC dX6_fewest_81 (by decide) ?_
      obtain ⟨q0, q1⟩ := jinj2 h
      subst q0
      subst q1
      exact j_iret hC dX6_fewest_85
  · have h := jit_t c3 h
    refine j_iconst (v := -1) (pc' := 9) hC dX6_fewest_8 rfl rfl ?_
    obtain ⟨q0, q1⟩ := jinj2 h
    subst q0
    subst q1
    exact j_iret hC dX6_fewest_9
theorem lp_X6_findNeed_L57_b {Γ : jG} (hC : jOK Γ cX6_findNeed 7 RX6 (none) { frames := 5, cells := 0, slots := 0, locals := 116 }) {Q : State → Prop} (x1 : Int32) (rec : Int32 → Int32 → Int32 → Int32 → jM → Option (Int32 × jM)) (ih : ∀ (x2 : Int32) (x3 : Int32) (x4 : Int32) (x5 : Int32) (M : jM) (e5 : Int32) (Me : jM), rec x2 x3 x4 x5 M = some (e5, Me) → jJ Γ GM RM 136 [(0, .ref (jad Γ 0)), (1, .int x1), (2, .int x2), (3, .int x3), (4, .int x4), (5, .int e5)] [] Me Q → jJ Γ GM RM 57 [(0, .ref (jad Γ 0)), (1, .int x1), (2, .int x2), (3, .int x3), (4, .int x4), (5, .int x5)] [] M Q) (x2 : Int32) (x3 : Int32) (x4 : Int32) (x5 : Int32) (M : jM) (e5 : Int32) (Me : jM) (h : f_X6_findNeed_L57_b rec x2 x3 x4 x5 M = some (e5, Me)) (hK : jJ Γ GM RM 136 [(0, .ref (jad Γ 0)), (1, .int x1), (2, .int x2), (3, .int x3), (4, .int x4), (5, .int e5)] [] Me Q) : jJ Γ GM RM 57 [(0, .ref (jad Γ 0)), (1, .int x1), (2, .int x2), (3, .int x3), (4, .int x4), (5, .int x5)] [] M Q := by
  unfold f_X6_findNeed_L57_b at h
  refine j_iload 5 (pc' := 59) hC dX6_findNeed_57 rfl rfl ?_
  refine j_aload_n 0 (pc' := 60) hC dX6_findNeed_59 rfl rfl ?_
  refine j_geti' (pc' := 63) hC dX6_findNeed_60 rfl fi_X6_156 gm0 ?_
  refine j_icmp_ge (tgt := 136) (pc' := 66) hC dX6_findNeed_63 (by decide) rfl (fun c1 => ?_) (fun c1 => ?_)
  · have h := jit_t c1 h
    obtain ⟨q0, q1⟩ := jinj2 h
    subst q0
    subst q1
    refine j_sub [0, 1, 2, 3, 4, 5] rfl ?_
    exact hK
  · have h := jit_f c1 h
    refine j_aload_n 0 (pc' := 67) hC dX6_findNeed_66 rfl rfl ?_
    refine j_iload_n 3 (pc' := 68) hC dX6_findNeed_67 rfl rfl ?_
    refine j_iload 4 (pc' := 70) hC dX6_findNeed_68 rfl rfl ?_
    refine j_iload 5 (pc' := 72) hC dX6_findNeed_70 rfl rfl ?_
    refine j_iload_n 2 (pc' := 73) hC dX6_findNeed_72 rfl rfl ?_
    obtain ⟨r2, hc3, h⟩ := jb1_s h
    refine j_callVi [.int x3, .int x4, .int x5, .int x2] (pc' := 76) hC dX6_findNeed_73 rfl (t_X6_leads _ _ hc3) gm0 vcl6 cv_X6_247 ⟨⟨Nat.le_of_ble_eq_true rfl, Nat.le_of_ble_eq_true rfl⟩, rfl, Nat.le_of_ble_eq_true rfl⟩ rfl rfl ?_
    obtain ⟨v8, hm10, h⟩ := jb1_s h
    have K9 : jJ Γ GM RM 100 [(0, .ref (jad Γ 0)), (1, .int x1), (2, .int x2), (3, .int x3), (4, .int x4), (5, .int x5)] [.int v8] M Q := by
      refine j_istore (pc' := 102) hC dX6_findNeed_100 rfl rfl (by decide) rfl ?_
      refine j_aload_n 1 (pc' := 103) hC dX6_findNeed_102 rfl rfl ?_
      refine j_getr' (o2 := 21) (pc' := 106) hC dX6_findNeed_103 rfl fi_X6_75 gm0 rfl ?_
      refine j_iload_n 4 (pc' := 107) hC dX6_findNeed_106 rfl rfl ?_
      refine j_iload 0 (pc' := 109) hC dX6_findNeed_107 rfl rfl ?_
      refine j_aload_n 1 (pc' := 110) hC dX6_findNeed_109 rfl rfl ?_
      refine j_getr' (o2 := 21) (pc' := 113) hC dX6_findNeed_110 rfl fi_X6_75 gm0 rfl ?_
      refine j_iload_n 4 (pc' := 114) hC dX6_findNeed_113 rfl rfl ?_
      obtain ⟨g15, h⟩ := jg_s h
      refine j_iald (pc' := 115) hC dX6_findNeed_114 rfl gm21 g15 ?_
      obtain ⟨v18, hm20, h⟩ := jb1_s h
      have K19 : jJ Γ GM RM 129 [(0, .ref (jad Γ 0)), (1, .int x1), (2, .int x2), (3, .int x3), (4, .int x4), (5, .int x5), (6, .int v8)] [.int v18, .int x3, .ref (jad Γ 21)] M Q := by
        obtain ⟨g23, h⟩ := jg_s h
        obtain ⟨M24, eM24, h⟩ := jlet_s h
        refine j_iast' (pc' := 130) hC dX6_findNeed_129 rfl gm21 g23 eM24 ?_
        obtain ⟨v25, ev25, h⟩ := jlet_s h
        refine j_iinc' 5 (c := 1) (pc' := 133) hC dX6_findNeed_130 rfl rfl rfl ev25 (by decide) rfl ?_
        refine j_goto (tgt := 57) (pc' := 0) hC dX6_findNeed_133 (by decide) ?_
        refine j_sub [1, 2, 3, 4, 5, 0] rfl ?_
        exact ih _ _ _ _ _ _ _ h hK
      refine j_icmp_ge (tgt := 123) (pc' := 118) hC dX6_findNeed_115 (by decide) rfl (fun c21 => ?_) (fun c21 => ?_)
      · have hm20 := jit_t c21 hm20
        refine j_aload_n 1 (pc' := 124) hC dX6_findNeed_123 rfl rfl ?_
        refine j_getr' (o2 := 21) (pc' := 127) hC dX6_findNeed_124 rfl fi_X6_75 gm0 rfl ?_
        refine j_iload_n 4 (pc' := 128) hC dX6_findNeed_127 rfl rfl ?_
        obtain ⟨g22, hm20⟩ := jg_s hm20
        refine j_iald (pc' := 129) hC dX6_findNeed_128 rfl gm21 g22 ?_
        have q8 := jinj1 hm20
        subst q8
        exact j_sub [1, 2, 3, 4, 5, 6, 0] rfl K19
      · have hm20 := jit_f c21 hm20
        refine j_iload 0 (pc' := 120) hC dX6_findNeed_118 rfl rfl ?_
        refine j_goto (tgt := 129) (pc' := 0) hC dX6_findNeed_120 (by decide) ?_
        have q8 := jinj1 hm20
        subst q8
        exact j_sub [1, 2, 3, 4, 5, 6, 0] rfl K19
    refine j_if_eq (tgt := 98) (pc' := 79) hC dX6_findNeed_76 (by decide) rfl (fun c11 => ?_) (fun c11 => ?_)
    · have hm10 := jit_t c11 hm10
      refine j_bipush (v := 99) (pc' := 100) hC dX6_findNeed_98 rfl rfl ?_
      have q8 := jinj1 hm10
      subst q8
      exact j_sub [0, 1, 2, 3, 4, 5] rfl K9
    · have hm10 := jit_f c11 hm10
      refine j_aload_n 0 (pc' := 80) hC dX6_findNeed_79 rfl rfl ?_
      refine j_getr' (o2 := 21) (pc' := 83) hC dX6_findNeed_80 rfl fi_X6_75 gm0 rfl ?_
      refine j_aload_n 0 (pc' := 84) hC dX6_findNeed_83 rfl rfl ?_
      refine j_iload_n 3 (pc' := 85) hC dX6_findNeed_84 rfl rfl ?_
      refine j_iload 4 (pc' := 87) hC dX6_findNeed_85 rfl rfl ?_
      refine j_iload 5 (pc' := 89) hC dX6_findNeed_87 rfl rfl ?_
      obtain ⟨r12, hc13, hm10⟩ := jb1_s hm10
      refine j_callVi [.int x3, .int x4, .int x5] (pc' := 92) hC dX6_findNeed_89 rfl (t_X6_behind _ _ hc13) gm0 vcl6 cv_X6_250 ⟨⟨Nat.le_of_ble_eq_true rfl, Nat.le_of_ble_eq_true rfl⟩, rfl, Nat.le_of_ble_eq_true rfl⟩ rfl rfl ?_
      obtain ⟨g14, hm10⟩ := jg_s hm10
      refine j_iald (pc' := 93) hC dX6_findNeed_92 rfl gm21 g14 ?_
      refine j_iconst (v := 1) (pc' := 94) hC dX6_findNeed_93 rfl rfl ?_
      refine j_iadd (pc' := 95) hC dX6_findNeed_94 rfl ?_
      refine j_goto (tgt := 100) (pc' := 0) hC dX6_findNeed_95 (by decide) ?_
      have q8 := jinj1 hm10
      subst q8
      exact j_sub [0, 1, 2, 3, 4, 5] rfl K9
theorem lp_X6_findNeed_L57 {Γ : jG} (hC : jOK Γ cX6_findNeed 7 RX6 (none) { frames := 5, cells := 0, slots := 0, locals := 116 }) {Q : State → Prop} (x1 : Int32) : ∀ (n : Nat) (x2 : Int32) (x3 : Int32) (x4 : Int32) (x5 : Int32) (M : jM) (e5 : Int32) (Me : jM), f_X6_findNeed_L57 n x2 x3 x4 x5 M = some (e5, Me) → jJ Γ GM RM 136 [(0, .ref (jad Γ 0)), (1, .int x1), (2, .int x2), (3, .int x3), (4, .int x4), (5, .int e5)] [] Me Q → jJ Γ GM RM 57 [(0, .ref (jad Γ 0)), (1, .int x1), (2, .int x2), (3, .int x3), (4, .int x4), (5, .int x5)] [] M Q := by
  intro n
  induction n with
  | zero =>
    intro x2 x3 x4 x5 M e5 Me h hK
    exact jno h
  | succ n ih =>
    intro x2 x3 x4 x5 M e5 Me h hK
    exact lp_X6_findNeed_L57_b hC x1 (f_X6_findNeed_L57 n) ih x2 x3 x4 x5 M e5 Me h hK
theorem lp_X6_findNeed_L36_b {Γ : jG} (hC : jOK Γ cX6_findNeed 7 RX6 (none) { frames := 5, cells := 0, slots := 0, locals := 116 }) {Q : State → Prop} (x1 : Int32) (rec : Int32 → Int32 → Int32 → jM → Option (Int32 × jM)) (ih : ∀ (x2 : Int32) (x3 : Int32) (x4 : Int32) (M : jM) (e4 : Int32) (Me : jM), rec x2 x3 x4 M = some (e4, Me) → jJ Γ GM RM 142 [(0, .ref (jad Γ 0)), (1, .int x1), (2, .int x2), (3, .int x3), (4, .int e4)] [] Me Q → jJ Γ GM RM 36 [(0, .ref (jad Γ 0)), (1, .int x1), (2, .int x2), (3, .int x3), (4, .int x4)] [] M Q) (x2 : Int32) (x3 : Int32) (x4 : Int32) (M : jM) (e4 : Int32) (Me : jM) (h : f_X6_findNeed_L36_b rec x2 x3 x4 M = some (e4, Me)) (hK : jJ Γ GM RM 142 [(0, .ref (jad Γ 0)), (1, .int x1), (2, .int x2), (3, .int x3), (4, .int e4)] [] Me Q) : jJ Γ GM RM 36 [(0, .ref (jad Γ 0)), (1, .int x1), (2, .int x2), (3, .int x3), (4, .int x4)] [] M Q := by
  unfold f_X6_findNeed_L36_b at h
  refine j_iload 4 (pc' := 38) hC dX6_findNeed_36 rfl rfl ?_
  refine j_aload_n 0 (pc' := 39) hC dX6_findNeed_38 rfl rfl ?_
  refine j_geti' (pc' := 42) hC dX6_findNeed_39 rfl fi_X6_159 gm0 ?_
  refine j_icmp_ge (tgt := 142) (pc' := 45) hC dX6_findNeed_42 (by decide) rfl (fun c1 => ?_) (fun c1 => ?_)
  · have h := jit_t c1 h
    obtain ⟨q0, q1⟩ := jinj2 h
    subst q0
    subst q1
    refine j_sub [0, 1, 2, 3, 4] rfl ?_
    exact hK
  · have h := jit_f c1 h
    refine j_aload_n 0 (pc' := 46) hC dX6_findNeed_45 rfl rfl ?_
    refine j_getr' (o2 := 21) (pc' := 49) hC dX6_findNeed_46 rfl fi_X6_75 gm0 rfl ?_
    refine j_iload_n 3 (pc' := 50) hC dX6_findNeed_49 rfl rfl ?_
    obtain ⟨g2, h⟩ := jg_s h
    refine j_iald (pc' := 51) hC dX6_findNeed_50 rfl gm21 g2 ?_
    refine j_if_le (tgt := 142) (pc' := 54) hC dX6_findNeed_51 (by decide) rfl (fun c3 => ?_) (fun c3 => ?_)
    · have h := jit_t c3 h
      obtain ⟨q0, q1⟩ := jinj2 h
      subst q0
      subst q1
      refine j_sub [0, 1, 2, 3, 4] rfl ?_
      exact hK
    · have h := jit_f c3 h
      refine j_iconst (v := -1) (pc' := 55) hC dX6_findNeed_54 rfl rfl ?_
      refine j_istore (pc' := 57) hC dX6_findNeed_55 rfl rfl (by decide) rfl ?_
      refine j_sub [1, 2, 3, 4, 5, 0] rfl ?_
      obtain ⟨v4, M5, hm6, h⟩ := jb2_s h
      refine lp_X6_findNeed_L57 hC x1 jfu x2 x3 x4 (-1 : Int32) M v4 M5 hm6 ?_
      obtain ⟨v7, ev7, h⟩ := jlet_s h
      refine j_iinc' 4 (c := 1) (pc' := 139) hC dX6_findNeed_136 rfl rfl rfl ev7 (by decide) rfl ?_
      refine j_goto (tgt := 36) (pc' := 0) hC dX6_findNeed_139 (by decide) ?_
      refine j_sub [1, 2, 3, 4, 0] rfl ?_
      exact ih _ _ _ _ _ _ h hK
theorem lp_X6_findNeed_L36 {Γ : jG} (hC : jOK Γ cX6_findNeed 7 RX6 (none) { frames := 5, cells := 0, slots := 0, locals := 116 }) {Q : State → Prop} (x1 : Int32) : ∀ (n : Nat) (x2 : Int32) (x3 : Int32) (x4 : Int32) (M : jM) (e4 : Int32) (Me : jM), f_X6_findNeed_L36 n x2 x3 x4 M = some (e4, Me) → jJ Γ GM RM 142 [(0, .ref (jad Γ 0)), (1, .int x1), (2, .int x2), (3, .int x3), (4, .int e4)] [] Me Q → jJ Γ GM RM 36 [(0, .ref (jad Γ 0)), (1, .int x1), (2, .int x2), (3, .int x3), (4, .int x4)] [] M Q := by
  intro n
  induction n with
  | zero =>
    intro x2 x3 x4 M e4 Me h hK
    exact jno h
  | succ n ih =>
    intro x2 x3 x4 M e4 Me h hK
    exact lp_X6_findNeed_L36_b hC x1 (f_X6_findNeed_L36 n) ih x2 x3 x4 M e4 Me h hK
theorem lp_X6_findNeed_L4_b {Γ : jG} (hC : jOK Γ cX6_findNeed 7 RX6 (none) { frames := 5, cells := 0, slots := 0, locals := 116 }) {Q : State → Prop} (rec : Int32 → Int32 → Int32 → jM → Option (Int32 × jM)) (ih : ∀ (x1 : Int32) (x2 : Int32) (x3 : Int32) (M : jM) (e3 : Int32) (Me : jM), rec x1 x2 x3 M = some (e3, Me) → jJ Γ GM RM 148 [(0, .ref (jad Γ 0)), (1, .int x1), (2, .int x2), (3, .int e3)] [] Me Q → jJ Γ GM RM 4 [(0, .ref (jad Γ 0)), (1, .int x1), (2, .int x2), (3, .int x3)] [] M Q) (x1 : Int32) (x2 : Int32) (x3 : Int32) (M : jM) (e3 : Int32) (Me : jM) (h : f_X6_findNeed_L4_b rec x1 x2 x3 M = some (e3, Me)) (hK : jJ Γ GM RM 148 [(0, .ref (jad Γ 0)), (1, .int x1), (2, .int x2), (3, .int e3)] [] Me Q) : jJ Γ GM RM 4 [(0, .ref (jad Γ 0)), (1, .int x1), (2, .int x2), (3, .int x3)] [] M Q := by
  unfold f_X6_findNeed_L4_b at h
  refine j_iload_n 3 (pc' := 5) hC dX6_findNeed_4 rfl rfl ?_
  refine j_if_lt (tgt := 148) (pc' := 8) hC dX6_findNeed_5 (by decide) rfl (fun c1 => ?_) (fun c1 => ?_)
  · have h := jit_t c1 h
    obtain ⟨q0, q1⟩ := jinj2 h
    subst q0
    subst q1
    refine j_sub [0, 1, 2, 3] rfl ?_
    exact hK
  · have h := jit_f c1 h
    refine j_aload_n 0 (pc' := 9) hC dX6_findNeed_8 rfl rfl ?_
    refine j_getr' (o2 := 21) (pc' := 12) hC dX6_findNeed_9 rfl fi_X6_75 gm0 rfl ?_
    refine j_iload_n 3 (pc' := 13) hC dX6_findNeed_12 rfl rfl ?_
    refine j_iload_n 3 (pc' := 14) hC dX6_findNeed_13 rfl rfl ?_
    refine j_iconst (v := 3) (pc' := 15) hC dX6_findNeed_14 rfl rfl ?_
    refine j_idiv (pc' := 16) hC dX6_findNeed_15 rfl (by decide) ?_
    refine j_bipush (v := 64) (pc' := 18) hC dX6_findNeed_16 rfl rfl ?_
    refine j_irem (pc' := 19) hC dX6_findNeed_18 rfl (by decide) ?_
    refine j_iload_n 1 (pc' := 20) hC dX6_findNeed_19 rfl rfl ?_
    obtain ⟨r2, hc3, h⟩ := jb1_s h
    refine j_callSi [.int ((x3 / (3 : Int32)) - (x3 / (3 : Int32)) / (64 : Int32) * (64 : Int32)), .int x1] (pc' := 23) hC dX6_findNeed_20 rfl (t_X6_has _ _ hc3) cs_X6_136 ⟨⟨Nat.le_of_ble_eq_true rfl, Nat.le_of_ble_eq_true rfl⟩, rfl, Nat.le_of_ble_eq_true rfl⟩ rfl rfl ?_
    obtain ⟨v5, hm7, h⟩ := jlet_s h
    have K6 : jJ Γ GM RM 32 [(0, .ref (jad Γ 0)), (1, .int x1), (2, .int x2), (3, .int x3)] [.int v5, .int x3, .ref (jad Γ 21)] M Q := by
      obtain ⟨g9, h⟩ := jg_s h
      obtain ⟨M10, eM10, h⟩ := jlet_s h
      refine j_iast' (pc' := 33) hC dX6_findNeed_32 rfl gm21 g9 eM10 ?_
      refine j_iconst (v := 0) (pc' := 34) hC dX6_findNeed_33 rfl rfl ?_
      refine j_istore (pc' := 36) hC dX6_findNeed_34 rfl rfl (by decide) rfl ?_
      refine j_sub [1, 2, 3, 4, 0] rfl ?_
      obtain ⟨v11, M12, hm13, h⟩ := jb2_s h
      refine lp_X6_findNeed_L36 hC x1 jfu x2 x3 (0 : Int32) M10 v11 M12 hm13 ?_
      obtain ⟨v14, ev14, h⟩ := jlet_s h
      refine j_iinc' 3 (c := -1) (pc' := 145) hC dX6_findNeed_142 rfl rfl rfl ev14 (by decide) rfl ?_
      refine j_goto (tgt := 4) (pc' := 0) hC dX6_findNeed_145 (by decide) ?_
      refine j_sub [1, 2, 3, 0] rfl ?_
      exact ih _ _ _ _ _ _ h hK
    refine j_if_eq (tgt := 30) (pc' := 26) hC dX6_findNeed_23 (by decide) rfl (fun c8 => ?_) (fun c8 => ?_)
    · have hm7 := jit_t c8 hm7
      refine j_bipush (v := 99) (pc' := 32) hC dX6_findNeed_30 rfl rfl ?_
      subst hm7
      exact j_sub [0, 1, 2, 3] rfl K6
    · have hm7 := jit_f c8 hm7
      refine j_iconst (v := 0) (pc' := 27) hC dX6_findNeed_26 rfl rfl ?_
      refine j_goto (tgt := 32) (pc' := 0) hC dX6_findNeed_27 (by decide) ?_
      subst hm7
      exact j_sub [0, 1, 2, 3] rfl K6
theorem lp_X6_findNeed_L4 {Γ : jG} (hC : jOK Γ cX6_findNeed 7 RX6 (none) { frames := 5, cells := 0, slots := 0, locals := 116 }) {Q : State → Prop} : ∀ (n : Nat) (x1 : Int32) (x2 : Int32) (x3 : Int32) (M : jM) (e3 : Int32) (Me : jM), f_X6_findNeed_L4 n x1 x2 x3 M = some (e3, Me) → jJ Γ GM RM 148 [(0, .ref (jad Γ 0)), (1, .int x1), (2, .int x2), (3, .int e3)] [] Me Q → jJ Γ GM RM 4 [(0, .ref (jad Γ 0)), (1, .int x1), (2, .int x2), (3, .int x3)] [] M Q := by
  intro n
  induction n with
  | zero =>
    intro x1 x2 x3 M e3 Me h hK
    exact jno h
  | succ n ih =>
    intro x1 x2 x3 M e3 Me h hK
    exact lp_X6_findNeed_L4_b hC (f_X6_findNeed_L4 n) ih x1 x2 x3 M e3 Me h hK
theorem t_X6_findNeed (l : Launch) (E : jE) {a1 : Int32} {a2 : Int32} {M : jM} {M' : jM} (h : f_X6_findNeed a1 a2 M = some M') : jCv l yX6_findNeed cX6_findNeed 7 (none) 5 116 E RM GM (fun a _ => [.ref (a 0), .int a1, .int a2]) M M' := by
  refine jCv_of (own := RX6) (by decide) rfl (fun _ _ => Nat.le_of_ble_eq_true rfl) ?_
  intro Γ hC
  show jJ Γ GM RM 0 [(0, .ref (jad Γ 0)), (1, .int a1), (2, .int a2)] [] M (jQv Γ RM GM M')
  unfold f_X6_findNeed at h
  refine j_sipush (v := 24575) (pc' := 3) hC dX6_findNeed_0 rfl rfl ?_
  refine j_istore_n (pc' := 4) hC dX6_findNeed_3 rfl rfl (by decide) rfl ?_
  refine j_sub [1, 2, 3, 0] rfl ?_
  obtain ⟨v1, M2, hm3, h⟩ := jb2_s h
  refine lp_X6_findNeed_L4 hC  jfu a1 a2 (24575 : Int32) M v1 M2 hm3 ?_
  have q8 := jinj1 h
  subst q8
  exact j_vret hC dX6_findNeed_148
theorem lp_X6_order_L106_b {Γ : jG} (hC : jOK Γ cX6_order 11 RX6 (some .int) { frames := 6, cells := 0, slots := 0, locals := 142 }) {Q : State → Prop} (x1 : Int32) (x5 : Int32) (rec : Int32 → Int32 → Int32 → Int32 → Int32 → Int32 → Int32 → Int32 → jM → Option (Int32 × Int32 × Int32 × jM)) (ih : ∀ (x2 : Int32) (x3 : Int32) (x4 : Int32) (x6 : Int32) (x7 : Int32) (x8 : Int32) (x9 : Int32) (x10 : Int32) (M : jM) (e4 : Int32) (e7 : Int32) (e10 : Int32) (Me : jM), rec x2 x3 x4 x6 x7 x8 x9 x10 M = some (e4, e7, e10, Me) → jJ Γ GM RM 226 [(0, .ref (jad Γ 0)), (1, .int x1), (2, .int x2), (3, .int x3), (4, .int e4), (5, .int x5), (6, .int x6), (7, .int e7), (8, .int x8), (9, .int x9), (10, .int e10)] [] Me Q → jJ Γ GM RM 106 [(0, .ref (jad Γ 0)), (1, .int x1), (2, .int x2), (3, .int x3), (4, .int x4), (5, .int x5), (6, .int x6), (7, .int x7), (8, .int x8), (9, .int x9), (10, .int x10)] [] M Q) (x2 : Int32) (x3 : Int32) (x4 : Int32) (x6 : Int32) (x7 : Int32) (x8 : Int32) (x9 : Int32) (x10 : Int32) (M : jM) (e4 : Int32) (e7 : Int32) (e10 : Int32) (Me : jM) (h : f_X6_order_L106_b rec x2 x3 x4 x6 x7 x8 x9 x10 M = some (e4, e7, e10, Me)) (hK : jJ Γ GM RM 226 [(0, .ref (jad Γ 0)), (1, .int x1), (2, .int x2), (3, .int x3), (4, .int e4), (5, .int x5), (6, .int x6), (7, .int e7), (8, .int x8), (9, .int x9), (10, .int e10)] [] Me Q) : jJ Γ GM RM 106 [(0, .ref (jad Γ 0)), (1, .int x1), (2, .int x2), (3, .int x3), (4, .int x4), (5, .int x5), (6, .int x6), (7, .int x7), (8, .int x8), (9, .int x9), (10, .int x10)] [] M Q := by
  unfold f_X6_order_L106_b at h
  refine j_iload 10 (pc' := 108) hC dX6_order_106 rfl rfl ?_
  refine j_aload_n 0 (pc' := 109) hC dX6_order_108 rfl rfl ?_
  refine j_geti' (pc' := 112) hC dX6_order_109 rfl fi_X6_156 gm0 ?_
  refine j_icmp_ge (tgt := 226) (pc' := 115) hC dX6_order_112 (by decide) rfl (fun c1 => ?_) (fun c1 => ?_)
  · have h := jit_t c1 h
    obtain ⟨q0, q1, q2, q3⟩ := jinj4 h
    subst q0
    subst q1
    subst q2
    subst q3
    refine j_sub [0, 1, 2, 3, 4, 5, 6, 7, 8, 9, 10] rfl ?_
    exact hK
  · have h := jit_f c1 h
    refine j_iload 7 (pc' := 117) hC dX6_order_115 rfl rfl ?_
    refine j_if_eq (tgt := 226) (pc' := 120) hC dX6_order_117 (by decide) rfl (fun c2 => ?_) (fun c2 => ?_)
    · have h := jit_t c2 h
      obtain ⟨q0, q1, q2, q3⟩ := jinj4 h
      subst q0
      subst q1
      subst q2
      subst q3
      refine j_sub [0, 1, 2, 3, 4, 5, 6, 7, 8, 9, 10] rfl ?_
      exact hK
    · have h := jit_f c2 h
      refine j_aload_n 0 (pc' := 121) hC dX6_order_120 rfl rfl ?_
      refine j_iload 8 (pc' := 123) hC dX6_order_121 rfl rfl ?_
      refine j_iload 9 (pc' := 125) hC dX6_order_123 rfl rfl ?_
      refine j_iload 10 (pc' := 127) hC dX6_order_125 rfl rfl ?_
      refine j_iload_n 3 (pc' := 128) hC dX6_order_127 rfl rfl ?_
      obtain ⟨r3, hc4, h⟩ := jb1_s h
      refine j_callVi [.int x8, .int x9, .int x10, .int x3] (pc' := 131) hC dX6_order_128 rfl (t_X6_leads _ _ hc4) gm0 vcl6 cv_X6_247 ⟨⟨Nat.le_of_ble_eq_true rfl, Nat.le_of_ble_eq_true rfl⟩, rfl, Nat.le_of_ble_eq_true rfl⟩ rfl rfl ?_
      obtain ⟨v22, v23, M24, hm26, h⟩ := jb3_s h
      have K25 : jJ Γ GM RM 220 [(0, .ref (jad Γ 0)), (1, .int x1), (2, .int x2), (3, .int x3), (4, .int v22), (5, .int x5), (6, .int x6), (7, .int v23), (8, .int x8), (9, .int x9), (10, .int x10)] [] M24 Q := by
        obtain ⟨v44, ev44, h⟩ := jlet_s h
        refine j_iinc' 10 (c := 1) (pc' := 223) hC dX6_order_220 rfl rfl rfl ev44 (by decide) rfl ?_
        refine j_goto (tgt := 106) (pc' := 0) hC dX6_order_223 (by decide) ?_
        refine j_sub [1, 2, 3, 4, 5, 6, 7, 8, 9, 10, 0] rfl ?_
        exact ih _ _ _ _ _ _ _ _ _ _ _ _ _ h hK
      refine j_if_eq (tgt := 220) (pc' := 134) hC dX6_order_131 (by decide) rfl (fun c27 => ?_) (fun c27 => ?_)
      · have hm26 := jit_t c27 hm26
        obtain ⟨q0, q1, q2⟩ := jinj3 hm26
        subst q0
        subst q1
        subst q2
        exact j_sub [0, 1, 2, 3, 4, 5, 6, 7, 8, 9, 10] rfl K25
      · have hm26 := jit_f c27 hm26
        refine j_aload_n 0 (pc' := 135) hC dX6_order_134 rfl rfl ?_
        refine j_getr' (o2 := 21) (pc' := 138) hC dX6_order_135 rfl fi_X6_75 gm0 rfl ?_
        refine j_aload_n 0 (pc' := 139) hC dX6_order_138 rfl rfl ?_
        refine j_iload 8 (pc' := 141) hC dX6_order_139 rfl rfl ?_
        refine j_iload 9 (pc' := 143) hC dX6_order_141 rfl rfl ?_
        refine j_iload 10 (pc' := 145) hC dX6_order_143 rfl rfl ?_
        obtain ⟨r28, hc29, hm26⟩ := jb1_s hm26
        refine j_callVi [.int x8, .int x9, .int x10] (pc' := 148) hC dX6_order_145 rfl (t_X6_behind _ _ hc29) gm0 vcl6 cv_X6_250 ⟨⟨Nat.le_of_ble_eq_true rfl, Nat.le_of_ble_eq_true rfl⟩, rfl, Nat.le_of_ble_eq_true rfl⟩ rfl rfl ?_
        obtain ⟨g30, hm26⟩ := jg_s hm26
        refine j_iald (pc' := 149) hC dX6_order_148 rfl gm21 g30 ?_
        refine j_aload_n 0 (pc' := 150) hC dX6_order_149 rfl rfl ?_
        refine j_getr' (o2 := 21) (pc' := 153) hC dX6_order_150 rfl fi_X6_75 gm0 rfl ?_
        refine j_iload 8 (pc' := 155) hC dX6_order_153 rfl rfl ?_
        obtain ⟨g31, hm26⟩ := jg_s hm26
        refine j_iald (pc' := 156) hC dX6_order_155 rfl gm21 g31 ?_
        refine j_iconst (v := 1) (pc' := 157) hC dX6_order_156 rfl rfl ?_
        refine j_isub (pc' := 158) hC dX6_order_157 rfl ?_
        refine j_icmp_ne (tgt := 220) (pc' := 161) hC dX6_order_158 (by decide) rfl (fun c32 => ?_) (fun c32 => ?_)
        · have hm26 := jit_f c32 hm26
          obtain ⟨q0, q1, q2⟩ := jinj3 hm26
          subst q0
          subst q1
          subst q2
          exact j_sub [0, 1, 2, 3, 4, 5, 6, 7, 8, 9, 10] rfl K25
        · have hm26 := jit_t c32 hm26
          refine j_aload_n 0 (pc' := 162) hC dX6_order_161 rfl rfl ?_
          refine j_getr' (o2 := 2) (pc' := 165) hC dX6_order_162 rfl fi_X6_13 gm0 rfl ?_
          refine j_bipush (v := 40) (pc' := 167) hC dX6_order_165 rfl rfl ?_
          refine j_iload_n 2 (pc' := 168) hC dX6_order_167 rfl rfl ?_
          refine j_imul (pc' := 169) hC dX6_order_168 rfl ?_
          refine j_iconst (v := 2) (pc' := 170) hC dX6_order_169 rfl rfl ?_
          refine j_iload 6 (pc' := 172) hC dX6_order_170 rfl rfl ?_
          refine j_imul (pc' := 173) hC dX6_order_172 rfl ?_
          refine j_iadd (pc' := 174) hC dX6_order_173 rfl ?_
          refine j_iload 9 (pc' := 176) hC dX6_order_174 rfl rfl ?_
          obtain ⟨g33, hm26⟩ := jg_s hm26
          obtain ⟨M34, eM34, hm26⟩ := jlet_s hm26
          refine j_iast' (pc' := 177) hC dX6_order_176 rfl gm2 g33 eM34 ?_
          refine j_aload_n 0 (pc' := 178) hC dX6_order_177 rfl rfl ?_
          refine j_getr' (o2 := 2) (pc' := 181) hC dX6_order_178 rfl fi_X6_13 gm0 rfl ?_
          refine j_bipush (v := 40) (pc' := 183) hC dX6_order_181 rfl rfl ?_
          refine j_iload_n 2 (pc' := 184) hC dX6_order_183 rfl rfl ?_
          refine j_imul (pc' := 185) hC dX6_order_184 rfl ?_
          refine j_iconst (v := 2) (pc' := 186) hC dX6_order_185 rfl rfl ?_
          refine j_iload 6 (pc' := 188) hC dX6_order_186 rfl rfl ?_
          refine j_imul (pc' := 189) hC dX6_order_188 rfl ?_
          refine j_iadd (pc' := 190) hC dX6_order_189 rfl ?_
          refine j_iconst (v := 1) (pc' := 191) hC dX6_order_190 rfl rfl ?_
          refine j_iadd (pc' := 192) hC dX6_order_191 rfl ?_
          refine j_iload 10 (pc' := 194) hC dX6_order_192 rfl rfl ?_
          obtain ⟨v36, hm38, hm26⟩ := jlet_s hm26
          have K37 : jJ Γ GM RM 204 [(0, .ref (jad Γ 0)), (1, .int x1), (2, .int x2), (3, .int x3), (4, .int x4), (5, .int x5), (6, .int x6), (7, .int x7), (8, .int x8), (9, .int x9), (10, .int x10)] [.int v36, .int ((((40 : Int32) * x2) + ((2 : Int32) * x6)) + (1 : Int32)), .ref (jad Γ 2)] M34 Q := by
            obtain ⟨g40, hm26⟩ := jg_s hm26
            obtain ⟨M41, eM41, hm26⟩ := jlet_s hm26
            refine j_iast' (pc' := 205) hC dX6_order_204 rfl gm2 g40 eM41 ?_
            refine j_aload_n 0 (pc' := 206) hC dX6_order_205 rfl rfl ?_
            refine j_iload 8 (pc' := 208) hC dX6_order_206 rfl rfl ?_
            refine j_iload 9 (pc' := 210) hC dX6_order_208 rfl rfl ?_
            refine j_iload 10 (pc' := 212) hC dX6_order_210 rfl rfl ?_
            obtain ⟨r42, hc43, hm26⟩ := jb1_s hm26
            refine j_callVi [.int x8, .int x9, .int x10] (pc' := 215) hC dX6_order_212 rfl (t_X6_behind _ _ hc43) gm0 vcl6 cv_X6_250 ⟨⟨Nat.le_of_ble_eq_true rfl, Nat.le_of_ble_eq_true rfl⟩, rfl, Nat.le_of_ble_eq_true rfl⟩ rfl rfl ?_
            refine j_istore (pc' := 217) hC dX6_order_215 rfl rfl (by decide) rfl ?_
            refine j_iconst (v := 0) (pc' := 218) hC dX6_order_217 rfl rfl ?_
            refine j_istore (pc' := 220) hC dX6_order_218 rfl rfl (by decide) rfl ?_
            obtain ⟨q0, q1, q2⟩ := jinj3 hm26
            subst q0
            subst q1
            subst q2
            exact j_sub [2, 3, 4, 5, 1, 6, 7, 0, 8, 9, 10] rfl K25
          refine j_if_ge (tgt := 202) (pc' := 197) hC dX6_order_194 (by decide) rfl (fun c39 => ?_) (fun c39 => ?_)
          · have hm38 := jit_t c39 hm38
            refine j_iload 10 (pc' := 204) hC dX6_order_202 rfl rfl ?_
            subst hm38
            exact j_sub [0, 1, 2, 3, 4, 5, 6, 7, 8, 9, 10] rfl K37
          · have hm38 := jit_f c39 hm38
            refine j_bipush (v := -9) (pc' := 199) hC dX6_order_197 rfl rfl ?_
            refine j_goto (tgt := 204) (pc' := 0) hC dX6_order_199 (by decide) ?_
            subst hm38
            exact j_sub [0, 1, 2, 3, 4, 5, 6, 7, 8, 9, 10] rfl K37
theorem lp_X6_order_L106 {Γ : jG} (hC : jOK Γ cX6_order 11 RX6 (some .int) { frames := 6, cells := 0, slots := 0, locals := 142 }) {Q : State → Prop} (x1 : Int32) (x5 : Int32) : ∀ (n : Nat) (x2 : Int32) (x3 : Int32) (x4 : Int32) (x6 : Int32) (x7 : Int32) (x8 : Int32) (x9 : Int32) (x10 : Int32) (M : jM) (e4 : Int32) (e7 : Int32) (e10 : Int32) (Me : jM), f_X6_order_L106 n x2 x3 x4 x6 x7 x8 x9 x10 M = some (e4, e7, e10, Me) → jJ Γ GM RM 226 [(0, .ref (jad Γ 0)), (1, .int x1), (2, .int x2), (3, .int x3), (4, .int e4), (5, .int x5), (6, .int x6), (7, .int e7), (8, .int x8), (9, .int x9), (10, .int e10)] [] Me Q → jJ Γ GM RM 106 [(0, .ref (jad Γ 0)), (1, .int x1), (2, .int x2), (3, .int x3), (4, .int x4), (5, .int x5), (6, .int x6), (7, .int x7), (8, .int x8), (9, .int x9), (10, .int x10)] [] M Q := by
  intro n
  induction n with
  | zero =>
    intro x2 x3 x4 x6 x7 x8 x9 x10 M e4 e7 e10 Me h hK
    exact jno h
  | succ n ih =>
    intro x2 x3 x4 x6 x7 x8 x9 x10 M e4 e7 e10 Me h hK
    exact lp_X6_order_L106_b hC x1 x5 (f_X6_order_L106 n) ih x2 x3 x4 x6 x7 x8 x9 x10 M e4 e7 e10 Me h hK
theorem lp_X6_order_L89_b {Γ : jG} (hC : jOK Γ cX6_order 11 RX6 (some .int) { frames := 6, cells := 0, slots := 0, locals := 142 }) {Q : State → Prop} (x1 : Int32) (x5 : Int32) (rec : Int32 → Int32 → Int32 → Int32 → Int32 → Int32 → Int32 → jM → Option (Int32 × Int32 × Int32 × jM)) (ih : ∀ (x2 : Int32) (x3 : Int32) (x4 : Int32) (x6 : Int32) (x7 : Int32) (x8 : Int32) (x9 : Int32) (M : jM) (e4 : Int32) (e7 : Int32) (e9 : Int32) (Me : jM), rec x2 x3 x4 x6 x7 x8 x9 M = some (e4, e7, e9, Me) → jJ Γ GM RM 232 [(0, .ref (jad Γ 0)), (1, .int x1), (2, .int x2), (3, .int x3), (4, .int e4), (5, .int x5), (6, .int x6), (7, .int e7), (8, .int x8), (9, .int e9)] [] Me Q → jJ Γ GM RM 89 [(0, .ref (jad Γ 0)), (1, .int x1), (2, .int x2), (3, .int x3), (4, .int x4), (5, .int x5), (6, .int x6), (7, .int x7), (8, .int x8), (9, .int x9)] [] M Q) (x2 : Int32) (x3 : Int32) (x4 : Int32) (x6 : Int32) (x7 : Int32) (x8 : Int32) (x9 : Int32) (M : jM) (e4 : Int32) (e7 : Int32) (e9 : Int32) (Me : jM) (h : f_X6_order_L89_b rec x2 x3 x4 x6 x7 x8 x9 M = some (e4, e7, e9, Me)) (hK : jJ Γ GM RM 232 [(0, .ref (jad Γ 0)), (1, .int x1), (2, .int x2), (3, .int x3), (4, .int e4), (5, .int x5), (6, .int x6), (7, .int e7), (8, .int x8), (9, .int e9)] [] Me Q) : jJ Γ GM RM 89 [(0, .ref (jad Γ 0)), (1, .int x1), (2, .int x2), (3, .int x3), (4, .int x4), (5, .int x5), (6, .int x6), (7, .int x7), (8, .int x8), (9, .int x9)] [] M Q := by
  unfold f_X6_order_L89_b at h
  refine j_iload 9 (pc' := 91) hC dX6_order_89 rfl rfl ?_
  refine j_aload_n 0 (pc' := 92) hC dX6_order_91 rfl rfl ?_
  refine j_geti' (pc' := 95) hC dX6_order_92 rfl fi_X6_159 gm0 ?_
  refine j_icmp_ge (tgt := 232) (pc' := 98) hC dX6_order_95 (by decide) rfl (fun c1 => ?_) (fun c1 => ?_)
  · have h := jit_t c1 h
    obtain ⟨q0, q1, q2, q3⟩ := jinj4 h
    subst q0
    subst q1
    subst q2
    subst q3
    refine j_sub [0, 1, 2, 3, 4, 5, 6, 7, 8, 9] rfl ?_
    exact hK
  · have h := jit_f c1 h
    refine j_iload 7 (pc' := 100) hC dX6_order_98 rfl rfl ?_
    refine j_if_eq (tgt := 232) (pc' := 103) hC dX6_order_100 (by decide) rfl (fun c2 => ?_) (fun c2 => ?_)
    · have h := jit_t c2 h
      obtain ⟨q0, q1, q2, q3⟩ := jinj4 h
      subst q0
      subst q1
      subst q2
      subst q3
      refine j_sub [0, 1, 2, 3, 4, 5, 6, 7, 8, 9] rfl ?_
      exact hK
    · have h := jit_f c2 h
      refine j_iconst (v := -1) (pc' := 104) hC dX6_order_103 rfl rfl ?_
      refine j_istore (pc' := 106) hC dX6_order_104 rfl rfl (by decide) rfl ?_
      refine j_sub [1, 2, 3, 4, 5, 6, 7, 8, 9, 10, 0] rfl ?_
      obtain ⟨v3, v4, v5, M6, hm7, h⟩ := jb4_s h
      refine lp_X6_order_L106 hC x1 x5 jfu x2 x3 x4 x6 x7 x8 x9 (-1 : Int32) M v3 v4 v5 M6 hm7 ?_
      obtain ⟨v8, ev8, h⟩ := jlet_s h
      refine j_iinc' 9 (c := 1) (pc' := 229) hC dX6_order_226 rfl rfl rfl ev8 (by decide) rfl ?_
      refine j_goto (tgt := 89) (pc' := 0) hC dX6_order_229 (by decide) ?_
      refine j_sub [1, 2, 3, 4, 5, 6, 7, 8, 9, 0] rfl ?_
      exact ih _ _ _ _ _ _ _ _ _ _ _ _ h hK
theorem lp_X6_order_L89 {Γ : jG} (hC : jOK Γ cX6_order 11 RX6 (some .int) { frames := 6, cells := 0, slots := 0, locals := 142 }) {Q : State → Prop} (x1 : Int32) (x5 : Int32) : ∀ (n : Nat) (x2 : Int32) (x3 : Int32) (x4 : Int32) (x6 : Int32) (x7 : Int32) (x8 : Int32) (x9 : Int32) (M : jM) (e4 : Int32) (e7 : Int32) (e9 : Int32) (Me : jM), f_X6_order_L89 n x2 x3 x4 x6 x7 x8 x9 M = some (e4, e7, e9, Me) → jJ Γ GM RM 232 [(0, .ref (jad Γ 0)), (1, .int x1), (2, .int x2), (3, .int x3), (4, .int e4), (5, .int x5), (6, .int x6), (7, .int e7), (8, .int x8), (9, .int e9)] [] Me Q → jJ Γ GM RM 89 [(0, .ref (jad Γ 0)), (1, .int x1), (2, .int x2), (3, .int x3), (4, .int x4), (5, .int x5), (6, .int x6), (7, .int x7), (8, .int x8), (9, .int x9)] [] M Q := by
  intro n
  induction n with
  | zero =>
    intro x2 x3 x4 x6 x7 x8 x9 M e4 e7 e9 Me h hK
    exact jno h
  | succ n ih =>
    intro x2 x3 x4 x6 x7 x8 x9 M e4 e7 e9 Me h hK
    exact lp_X6_order_L89_b hC x1 x5 (f_X6_order_L89 n) ih x2 x3 x4 x6 x7 x8 x9 M e4 e7 e9 Me h hK
theorem lp_X6_order_L72_b {Γ : jG} (hC : jOK Γ cX6_order 11 RX6 (some .int) { frames := 6, cells := 0, slots := 0, locals := 142 }) {Q : State → Prop} (x1 : Int32) (rec : Int32 → Int32 → Int32 → Int32 → Int32 → jM → Option (Int32 × Int32 × jM)) (ih : ∀ (x2 : Int32) (x3 : Int32) (x4 : Int32) (x5 : Int32) (x6 : Int32) (M : jM) (e4 : Int32) (e6 : Int32) (Me : jM), rec x2 x3 x4 x5 x6 M = some (e4, e6, Me) → jJ Γ GM RM 238 [(0, .ref (jad Γ 0)), (1, .int x1), (2, .int x2), (3, .int x3), (4, .int e4), (5, .int x5), (6, .int e6)] [] Me Q → jJ Γ GM RM 72 [(0, .ref (jad Γ 0)), (1, .int x1), (2, .int x2), (3, .int x3), (4, .int x4), (5, .int x5), (6, .int x6)] [] M Q) (x2 : Int32) (x3 : Int32) (x4 : Int32) (x5 : Int32) (x6 : Int32) (M : jM) (e4 : Int32) (e6 : Int32) (Me : jM) (h : f_X6_order_L72_b rec x2 x3 x4 x5 x6 M = some (e4, e6, Me)) (hK : jJ Γ GM RM 238 [(0, .ref (jad Γ 0)), (1, .int x1), (2, .int x2), (3, .int x3), (4, .int e4), (5, .int x5), (6, .int e6)] [] Me Q) : jJ Γ GM RM 72 [(0, .ref (jad Γ 0)), (1, .int x1), (2, .int x2), (3, .int x3), (4, .int x4), (5, .int x5), (6, .int x6)] [] M Q := by
  unfold f_X6_order_L72_b at h
  refine j_iload 6 (pc' := 74) hC dX6_order_72 rfl rfl ?_
  refine j_iload 5 (pc' := 76) hC dX6_order_74 rfl rfl ?_
  refine j_icmp_ge (tgt := 238) (pc' := 79) hC dX6_order_76 (by decide) rfl (fun c1 => ?_) (fun c1 => ?_)
  · have h := jit_t c1 h
    obtain ⟨q0, q1, q2⟩ := jinj3 h
    subst q0
    subst q1
    subst q2
    refine j_sub [0, 1, 2, 3, 4, 5, 6] rfl ?_
    exact hK
  · have h := jit_f c1 h
    refine j_iconst (v := 1) (pc' := 80) hC dX6_order_79 rfl rfl ?_
    refine j_istore (pc' := 82) hC dX6_order_80 rfl rfl (by decide) rfl ?_
    refine j_iload 5 (pc' := 84) hC dX6_order_82 rfl rfl ?_
    refine j_istore (pc' := 86) hC dX6_order_84 rfl rfl (by decide) rfl ?_
    refine j_iconst (v := 0) (pc' := 87) hC dX6_order_86 rfl rfl ?_
    refine j_istore (pc' := 89) hC dX6_order_87 rfl rfl (by decide) rfl ?_
    refine j_sub [3, 4, 5, 6, 7, 8, 9, 2, 1, 0] rfl ?_
    obtain ⟨v2, v3, v4, M5, hm6, h⟩ := jb4_s h
    refine lp_X6_order_L89 hC x1 x5 jfu x2 x3 x4 x6 (1 : Int32) x4 (0 : Int32) M v2 v3 v4 M5 hm6 ?_
    obtain ⟨v7, ev7, h⟩ := jlet_s h
    refine j_iinc' 6 (c := 1) (pc' := 235) hC dX6_order_232 rfl rfl rfl ev7 (by decide) rfl ?_
    refine j_goto (tgt := 72) (pc' := 0) hC dX6_order_235 (by decide) ?_
    refine j_sub [1, 2, 3, 4, 5, 6, 0] rfl ?_
    exact ih _ _ _ _ _ _ _ _ _ h hK
theorem lp_X6_order_L72 {Γ : jG} (hC : jOK Γ cX6_order 11 RX6 (some .int) { frames := 6, cells := 0, slots := 0, locals := 142 }) {Q : State → Prop} (x1 : Int32) : ∀ (n : Nat) (x2 : Int32) (x3 : Int32) (x4 : Int32) (x5 : Int32) (x6 : Int32) (M : jM) (e4 : Int32) (e6 : Int32) (Me : jM), f_X6_order_L72 n x2 x3 x4 x5 x6 M = some (e4, e6, Me) → jJ Γ GM RM 238 [(0, .ref (jad Γ 0)), (1, .int x1), (2, .int x2), (3, .int x3), (4, .int e4), (5, .int x5), (6, .int e6)] [] Me Q → jJ Γ GM RM 72 [(0, .ref (jad Γ 0)), (1, .int x1), (2, .int x2), (3, .int x3), (4, .int x4), (5, .int x5), (6, .int x6)] [] M Q := by
  intro n
  induction n with
  | zero =>
    intro x2 x3 x4 x5 x6 M e4 e6 Me h hK
    exact jno h
  | succ n ih =>
    intro x2 x3 x4 x5 x6 M e4 e6 Me h hK
    exact lp_X6_order_L72_b hC x1 (f_X6_order_L72 n) ih x2 x3 x4 x5 x6 M e4 e6 Me h hK
theorem t_X6_order (l : Launch) (E : jE) {a1 : Int32} {a2 : Int32} {M : jM} {r : Int32} {M' : jM} (h : f_X6_order a1 a2 M = some (r, M')) : jCi l yX6_order cX6_order 11 (some .int) 6 142 E RM GM (fun a _ => [.ref (a 0), .int a1, .int a2]) M r M' := by
  refine jCi_of (own := RX6) (by decide) rfl (fun _ _ => Nat.le_of_ble_eq_true rfl) ?_
  intro Γ hC
  show jJ Γ GM RM 0 [(0, .ref (jad Γ 0)), (1, .int a1), (2, .int a2)] [] M (jQi Γ RM GM r M')
  unfold f_X6_order at h
  refine j_aload_n 0 (pc' := 1) hC dX6_order_0 rfl rfl ?_
  refine j_iload_n 1 (pc' := 2) hC dX6_order_1 rfl rfl ?_
  obtain ⟨r1, hc2, h⟩ := jb1_s h
  refine j_callVi [.int a1] (pc' := 5) hC dX6_order_2 rfl (t_X6_isDeed _ _ hc2) gm0 vcl6 cv_X6_168 ⟨⟨Nat.le_of_ble_eq_true rfl, Nat.le_of_ble_eq_true rfl⟩, rfl, Nat.le_of_ble_eq_true rfl⟩ rfl rfl ?_
  refine j_if_eq (tgt := 15) (pc' := 8) hC dX6_order_5 (by decide) rfl (fun c3 => ?_) (fun c3 => ?_)
  · have h := jit_t c3 h
    refine j_iconst (v := -1) (pc' := 16) hC dX6_order_15 rfl rfl ?_
    obtain ⟨q0, q1⟩ := jinj2 h
    subst q0
    subst q1
    exact j_iret hC dX6_order_16
  · have h := jit_f c3 h
    refine j_iload_n 2 (pc' := 9) hC dX6_order_8 rfl rfl ?_
    obtain ⟨r4, hc5, h⟩ := jb1_s h
    refine j_callSi [.int a2] (pc' := 12) hC dX6_order_9 rfl (t_X6_isRow _ _ hc5) cs_X6_99 ⟨⟨Nat.le_of_ble_eq_true rfl, Nat.le_of_ble_eq_true rfl⟩, rfl, Nat.le_of_ble_eq_true rfl⟩ rfl rfl ?_
    refine j_if_ne (tgt := 17) (pc' := 15) hC dX6_order_12 (by decide) rfl (fun c6 => ?_) (fun c6 => ?_)
    · have h := jit_f c6 h
      refine j_aload_n 0 (pc' := 18) hC dX6_order_17 rfl rfl ?_
      refine j_aload_n 0 (pc' := 19) hC dX6_order_18 rfl rfl ?_
      refine j_getr' (o2 := 12) (pc' := 22) hC dX6_order_19 rfl fi_X6_43 gm0 rfl ?_
      refine j_iconst (v := 0) (pc' := 23) hC dX6_order_22 rfl rfl ?_
      refine j_iald (pc' := 24) hC dX6_order_23 rfl gm12 (by decide) ?_
      obtain ⟨r7, hc8, h⟩ := jb1_s h
      refine j_callVi [.int (gi M 12 (0 : Int32).toNatClampNeg)] (pc' := 27) hC dX6_order_24 rfl (t_X6_shelfOn _ _ hc8) gm0 vcl6 cv_X6_213 ⟨⟨Nat.le_of_ble_eq_true rfl, Nat.le_of_ble_eq_true rfl⟩, rfl, Nat.le_of_ble_eq_true rfl⟩ rfl rfl ?_
      refine j_istore_n (pc' := 28) hC dX6_order_27 rfl rfl (by decide) rfl ?_
      refine j_aload_n 1 (pc' := 29) hC dX6_order_28 rfl rfl ?_
      refine j_iload_n 2 (pc' := 30) hC dX6_order_29 rfl rfl ?_
      refine j_iload_n 0 (pc' := 31) hC dX6_order_30 rfl rfl ?_
      obtain ⟨M9, hc10, h⟩ := jb1_s h
      refine j_callVv [.int a1, .int r7] (pc' := 34) hC dX6_order_31 rfl (t_X6_findNeed _ _ hc10) gm0 vcl6 cv_X6_262 ⟨⟨Nat.le_of_ble_eq_true rfl, Nat.le_of_ble_eq_true rfl⟩, rfl, Nat.le_of_ble_eq_true rfl⟩ rfl rfl ?_
      refine j_aload_n 1 (pc' := 35) hC dX6_order_34 rfl rfl ?_
      obtain ⟨r11, hc12, h⟩ := jb1_s h
      refine j_callVi [] (pc' := 38) hC dX6_order_35 rfl (t_X6_begin _ _ hc12) gm0 vcl6 cv_X6_243 ⟨⟨Nat.le_of_ble_eq_true rfl, Nat.le_of_ble_eq_true rfl⟩, rfl, Nat.le_of_ble_eq_true rfl⟩ rfl rfl ?_
      refine j_istore (pc' := 40) hC dX6_order_38 rfl rfl (by decide) rfl ?_
      refine j_aload_n 2 (pc' := 41) hC dX6_order_40 rfl rfl ?_
      refine j_getr' (o2 := 21) (pc' := 44) hC dX6_order_41 rfl fi_X6_75 gm0 rfl ?_
      refine j_iload 0 (pc' := 46) hC dX6_order_44 rfl rfl ?_
      obtain ⟨g13, h⟩ := jg_s h
      refine j_iald (pc' := 47) hC dX6_order_46 rfl gm21 g13 ?_
      obtain ⟨v14, ev14, h⟩ := jlet_s h
      refine j_istore (pc' := 49) hC dX6_order_47 rfl ev14 (by decide) rfl ?_
      refine j_iload 0 (pc' := 51) hC dX6_order_49 rfl rfl ?_
      refine j_bipush (v := 99) (pc' := 53) hC dX6_order_51 rfl rfl ?_
      refine j_icmp_lt (tgt := 59) (pc' := 56) hC dX6_order_53 (by decide) rfl (fun c15 => ?_) (fun c15 => ?_)
      · have h := jit_t c15 h
        refine j_aload_n 3 (pc' := 60) hC dX6_order_59 rfl rfl ?_
        refine j_iload_n 5 (pc' := 61) hC dX6_order_60 rfl rfl ?_
        refine j_iconst (v := 2) (pc' := 62) hC dX6_order_61 rfl rfl ?_
        refine j_iload 0 (pc' := 64) hC dX6_order_62 rfl rfl ?_
        refine j_imul (pc' := 65) hC dX6_order_64 rfl ?_
        obtain ⟨r16, M17, hc18, h⟩ := jb2_s h
        refine j_callVi [.int a2, .int ((2 : Int32) * v14)] (pc' := 68) hC dX6_order_65 rfl (t_X6_row _ _ hc18) gm0 vcl6 cv_X6_265 ⟨⟨Nat.le_of_ble_eq_true rfl, Nat.le_of_ble_eq_true rfl⟩, rfl, Nat.le_of_ble_eq_true rfl⟩ rfl rfl ?_
        refine j_pop (pc' := 69) hC dX6_order_68 rfl rfl ?_
        refine j_iconst (v := 0) (pc' := 70) hC dX6_order_69 rfl rfl ?_
        refine j_istore (pc' := 72) hC dX6_order_70 rfl rfl (by decide) rfl ?_
        refine j_sub [4, 5, 6, 3, 2, 1, 0] rfl ?_
        obtain ⟨v19, v20, M21, hm22, h⟩ := jb3_s h
        refine lp_X6_order_L72 hC a1 jfu a2 r7 r11 v14 (0 : Int32) M17 v19 v20 M21 hm22 ?_
        refine j_iload 5 (pc' := 240) hC dX6_order_238 rfl rfl ?_
        obtain ⟨q0, q1⟩ := jinj2 h
        subst q0
        subst q1
        exact j_iret hC dX6_order_240
      · have h := jit_f c15 h
        refine j_bipush (v := -9) (pc' := 58) hC dX6_order_56 rfl rfl ?_
        obtain ⟨q0, q1⟩ := jinj2 h
        subst q0
        subst q1
        exact j_iret hC dX6_order_58
    · have h := jit_t c6 h
      refine j_iconst (v := -1) (pc' := 16) hC dX6_order_15 rfl rfl ?_
      obtain ⟨q0, q1⟩ := jinj2 h
      subst q0
      subst q1
      exact j_iret hC dX6_order_16
theorem lp_X6_shut_L36_b {Γ : jG} (hC : jOK Γ cX6_shut 4 RX6 (some .int) { frames := 6, cells := 0, slots := 0, locals := 140 }) {Q : State → Prop} (rec : Int32 → Int32 → Int32 → jM → Option (Int32 × Int32)) (ih : ∀ (x1 : Int32) (x2 : Int32) (x3 : Int32) (M : jM) (e2 : Int32) (e3 : Int32), rec x1 x2 x3 M = some (e2, e3) → jJ Γ GM RM 87 [(0, .ref (jad Γ 0)), (1, .int x1), (2, .int e2), (3, .int e3)] [] M Q → jJ Γ GM RM 36 [(0, .ref (jad Γ 0)), (1, .int x1), (2, .int x2), (3, .int x3)] [] M Q) (x1 : Int32) (x2 : Int32) (x3 : Int32) (M : jM) (e2 : Int32) (e3 : Int32) (h : f_X6_shut_L36_b rec x1 x2 x3 M = some (e2, e3)) (hK : jJ Γ GM RM 87 [(0, .ref (jad Γ 0)), (1, .int x1), (2, .int e2), (3, .int e3)] [] M Q) : jJ Γ GM RM 36 [(0, .ref (jad Γ 0)), (1, .int x1), (2, .int x2), (3, .int x3)] [] M Q := by
  unfold f_X6_shut_L36_b at h
  refine j_iload_n 3 (pc' := 37) hC dX6_shut_36 rfl rfl ?_
  refine j_aload_n 0 (pc' := 38) hC dX6_shut_37 rfl rfl ?_
  refine j_geti' (pc' := 41) hC dX6_shut_38 rfl fi_X6_159 gm0 ?_
  refine j_icmp_ge (tgt := 87) (pc' := 44) hC dX6_shut_41 (by decide) rfl (fun c1 => ?_) (fun c1 => ?_)
  · have h := jit_t c1 h
    obtain ⟨q0, q1⟩ := jinj2 h
    subst q0
    subst q1
    refine j_sub [0, 1, 2, 3] rfl ?_
    exact hK
  · have h := jit_f c1 h
    refine j_iload_n 2 (pc' := 45) hC dX6_shut_44 rfl rfl ?_
    refine j_iload_n 1 (pc' := 46) hC dX6_shut_45 rfl rfl ?_
    refine j_iload_n 3 (pc' := 47) hC dX6_shut_46 rfl rfl ?_
    obtain ⟨r2, hc3, h⟩ := jb1_s h
    refine j_callSi [.int x1, .int x3] (pc' := 50) hC dX6_shut_47 rfl (t_X6_has _ _ hc3) cs_X6_136 ⟨⟨Nat.le_of_ble_eq_true rfl, Nat.le_of_ble_eq_true rfl⟩, rfl, Nat.le_of_ble_eq_true rfl⟩ rfl rfl ?_
    obtain ⟨v10, hm12, h⟩ := jb1_s h
    have K11 : jJ Γ GM RM 79 [(0, .ref (jad Γ 0)), (1, .int x1), (2, .int x2), (3, .int x3)] [.int v10, .int x2] M Q := by
      refine j_ior (pc' := 80) hC dX6_shut_79 rfl ?_
      obtain ⟨v19, ev19, h⟩ := jlet_s h
      refine j_istore_n (pc' := 81) hC dX6_shut_80 rfl ev19 (by decide) rfl ?_
      obtain ⟨v20, ev20, h⟩ := jlet_s h
      refine j_iinc' 3 (c := 1) (pc' := 84) hC dX6_shut_81 rfl rfl rfl ev20 (by decide) rfl ?_
      refine j_goto (tgt := 36) (pc' := 0) hC dX6_shut_84 (by decide) ?_
      refine j_sub [2, 3, 1, 0] rfl ?_
      exact ih _ _ _ _ _ _ h hK
    refine j_if_eq (tgt := 78) (pc' := 53) hC dX6_shut_50 (by decide) rfl (fun c13 => ?_) (fun c13 => ?_)
    · have hm12 := jit_t c13 hm12
      refine j_iconst (v := 0) (pc' := 79) hC dX6_shut_78 rfl rfl ?_
      have q8 := jinj1 hm12
      subst q8
      exact j_sub [0, 1, 2, 3] rfl K11
    · have hm12 := jit_f c13 hm12
      refine j_aload_n 0 (pc' := 54) hC dX6_shut_53 rfl rfl ?_
      refine j_iload_n 1 (pc' := 55) hC dX6_shut_54 rfl rfl ?_
      refine j_iconst (v := 1) (pc' := 56) hC dX6_shut_55 rfl rfl ?_
      refine j_iload_n 3 (pc' := 57) hC dX6_shut_56 rfl rfl ?_
      refine j_ishl (pc' := 58) hC dX6_shut_57 rfl ?_
      refine j_iconst (v := -1) (pc' := 59) hC dX6_shut_58 rfl rfl ?_
      refine j_ixor (pc' := 60) hC dX6_shut_59 rfl ?_
      refine j_iand (pc' := 61) hC dX6_shut_60 rfl ?_
      obtain ⟨r14, hc15, hm12⟩ := jb1_s hm12
      refine j_callVi [.int (x1 &&& (((1 : Int32) <<< (x3 &&& 31)) ^^^ (-1 : Int32)))] (pc' := 64) hC dX6_shut_61 rfl (t_X6_mostOf _ _ hc15) gm0 vcl6 cv_X6_259 ⟨⟨Nat.le_of_ble_eq_true rfl, Nat.le_of_ble_eq_true rfl⟩, rfl, Nat.le_of_ble_eq_true rfl⟩ rfl rfl ?_
      refine j_aload_n 0 (pc' := 65) hC dX6_shut_64 rfl rfl ?_
      refine j_iload_n 1 (pc' := 66) hC dX6_shut_65 rfl rfl ?_
      obtain ⟨r16, hc17, hm12⟩ := jb1_s hm12
      refine j_callVi [.int x1] (pc' := 69) hC dX6_shut_66 rfl (t_X6_mostOf _ _ hc17) gm0 vcl6 cv_X6_259 ⟨⟨Nat.le_of_ble_eq_true rfl, Nat.le_of_ble_eq_true rfl⟩, rfl, Nat.le_of_ble_eq_true rfl⟩ rfl rfl ?_
      refine j_icmp_ne (tgt := 78) (pc' := 72) hC dX6_shut_69 (by decide) rfl (fun c18 => ?_) (fun c18 => ?_)
      · have hm12 := jit_f c18 hm12
        refine j_iconst (v := 0) (pc' := 79) hC dX6_shut_78 rfl rfl ?_
        have q8 := jinj1 hm12
        subst q8
        exact j_sub [0, 1, 2, 3] rfl K11
      · have hm12 := jit_t c18 hm12
        refine j_iconst (v := 1) (pc' := 73) hC dX6_shut_72 rfl rfl ?_
        refine j_iload_n 3 (pc' := 74) hC dX6_shut_73 rfl rfl ?_
        refine j_ishl (pc' := 75) hC dX6_shut_74 rfl ?_
        refine j_goto (tgt := 79) (pc' := 0) hC dX6_shut_75 (by decide) ?_
        have q8 := jinj1 hm12
        subst q8
        exact j_sub [0, 1, 2, 3] rfl K11
theorem lp_X6_shut_L36 {Γ : jG} (hC : jOK Γ cX6_shut 4 RX6 (some .int) { frames := 6, cells := 0, slots := 0, locals := 140 }) {Q : State → Prop} : ∀ (n : Nat) (x1 : Int32) (x2 : Int32) (x3 : Int32) (M : jM) (e2 : Int32) (e3 : Int32), f_X6_shut_L36 n x1 x2 x3 M = some (e2, e3) → jJ Γ GM RM 87 [(0, .ref (jad Γ 0)), (1, .int x1), (2, .int e2), (3, .int e3)] [] M Q → jJ Γ GM RM 36 [(0, .ref (jad Γ 0)), (1, .int x1), (2, .int x2), (3, .int x3)] [] M Q := by
  intro n
  induction n with
  | zero =>
    intro x1 x2 x3 M e2 e3 h hK
    exact jno h
  | succ n ih =>
    intro x1 x2 x3 M e2 e3 h hK
    exact lp_X6_shut_L36_b hC (f_X6_shut_L36 n) ih x1 x2 x3 M e2 e3 h hK
theorem t_X6_shut (l : Launch) (E : jE) {M : jM} {r : Int32} {M' : jM} (h : f_X6_shut M = some (r, M')) : jCi l yX6_shut cX6_shut 4 (some .int) 6 140 E RM GM (fun a _ => [.ref (a 0)]) M r M' := by
  refine jCi_of (own := RX6) (by decide) rfl (fun _ _ => Nat.le_of_ble_eq_true rfl) ?_
  intro Γ hC
  show jJ Γ GM RM 0 [(0, .ref (jad Γ 0))] [] M (jQi Γ RM GM r M')
  unfold f_X6_shut at h
  refine j_aload_n 0 (pc' := 1) hC dX6_shut_0 rfl rfl ?_
  refine j_geti' (pc' := 4) hC dX6_shut_1 rfl fi_X6_156 gm0 ?_
  refine j_if_ne (tgt := 10) (pc' := 7) hC dX6_shut_4 (by decide) rfl (fun c1 => ?_) (fun c1 => ?_)
  · have h := jit_f c1 h
    refine j_aload_n 0 (pc' := 11) hC dX6_shut_10 rfl rfl ?_
    refine j_aload_n 0 (pc' := 12) hC dX6_shut_11 rfl rfl ?_
    refine j_getr' (o2 := 12) (pc' := 15) hC dX6_shut_12 rfl fi_X6_43 gm0 rfl ?_
    refine j_iconst (v := 0) (pc' := 16) hC dX6_shut_15 rfl rfl ?_
    refine j_iald (pc' := 17) hC dX6_shut_16 rfl gm12 (by decide) ?_
    obtain ⟨r2, hc3, h⟩ := jb1_s h
    refine j_callVi [.int (gi M 12 (0 : Int32).toNatClampNeg)] (pc' := 20) hC dX6_shut_17 rfl (t_X6_shelfOn _ _ hc3) gm0 vcl6 cv_X6_213 ⟨⟨Nat.le_of_ble_eq_true rfl, Nat.le_of_ble_eq_true rfl⟩, rfl, Nat.le_of_ble_eq_true rfl⟩ rfl rfl ?_
    refine j_istore_n (pc' := 21) hC dX6_shut_20 rfl rfl (by decide) rfl ?_
    refine j_aload_n 1 (pc' := 22) hC dX6_shut_21 rfl rfl ?_
    refine j_iload_n 0 (pc' := 23) hC dX6_shut_22 rfl rfl ?_
    obtain ⟨M4, hc5, h⟩ := jb1_s h
    refine j_callVv [.int r2] (pc' := 26) hC dX6_shut_23 rfl (t_X6_reach _ _ hc5) gm0 vcl6 cv_X6_253 ⟨⟨Nat.le_of_ble_eq_true rfl, Nat.le_of_ble_eq_true rfl⟩, rfl, Nat.le_of_ble_eq_true rfl⟩ rfl rfl ?_
    refine j_aload_n 1 (pc' := 27) hC dX6_shut_26 rfl rfl ?_
    refine j_bipush (v := -9) (pc' := 29) hC dX6_shut_27 rfl rfl ?_
    obtain ⟨M6, hc7, h⟩ := jb1_s h
    refine j_callVv [.int (-9 : Int32)] (pc' := 32) hC dX6_shut_29 rfl (t_X6_findMosts _ _ hc7) gm0 vcl6 cv_X6_256 ⟨⟨Nat.le_of_ble_eq_true rfl, Nat.le_of_ble_eq_true rfl⟩, rfl, Nat.le_of_ble_eq_true rfl⟩ rfl rfl ?_
    refine j_iconst (v := 0) (pc' := 33) hC dX6_shut_32 rfl rfl ?_
    refine j_istore_n (pc' := 34) hC dX6_shut_33 rfl rfl (by decide) rfl ?_
    refine j_iconst (v := 0) (pc' := 35) hC dX6_shut_34 rfl rfl ?_
    refine j_istore_n (pc' := 36) hC dX6_shut_35 rfl rfl (by decide) rfl ?_
    refine j_sub [3, 2, 1, 0] rfl ?_
    obtain ⟨v8, v9, hm10, h⟩ := jb2_s h
    refine lp_X6_shut_L36 hC  jfu r2 (0 : Int32) (0 : Int32) M6 v8 v9 hm10 ?_
    refine j_iload_n 2 (pc' := 88) hC dX6_shut_87 rfl rfl ?_
    obtain ⟨q0, q1⟩ := jinj2 h
    subst q0
    subst q1
    exact j_iret hC dX6_shut_88
  · have h := jit_t c1 h
    refine j_bipush (v := -4) (pc' := 9) hC dX6_shut_7 rfl rfl ?_
    obtain ⟨q0, q1⟩ := jinj2 h
    subst q0
    subst q1
    exact j_iret hC dX6_shut_9
theorem lp_X6_waits_L32_b {Γ : jG} (hC : jOK Γ cX6_waits 3 RX6 (some .int) { frames := 6, cells := 0, slots := 0, locals := 140 }) {Q : State → Prop} (x1 : Int32) (rec : Int32 → jM → Option ((Int32 × jM) ⊕ (Int32))) (ih : ∀ (x2 : Int32) (M : jM) (res : (Int32 × jM) ⊕ (Int32)), rec x2 M = some res → (∀ (r : Int32) (M' : jM), res = .inl (r, M') → Q = jQi Γ RM GM r M') → (∀ (e2 : Int32), res = .inr e2 → jJ Γ GM RM 58 [(0, .ref (jad Γ 0)), (1, .int x1), (2, .int e2)] [] M Q) → jJ Γ GM RM 32 [(0, .ref (jad Γ 0)), (1, .int x1), (2, .int x2)] [] M Q) (x2 : Int32) (M : jM) (res : (Int32 × jM) ⊕ (Int32)) (h : f_X6_waits_L32_b rec x2 M = some res) (hQ : ∀ (r : Int32) (M' : jM), res = .inl (r, M') → Q = jQi Γ RM GM r M') (hK : ∀ (e2 : Int32), res = .inr e2 → jJ Γ GM RM 58 [(0, .ref (jad Γ 0)), (1, .int x1), (2, .int e2)] [] M Q) : jJ Γ GM RM 32 [(0, .ref (jad Γ 0)), (1, .int x1), (2, .int x2)] [] M Q := by
  unfold f_X6_waits_L32_b at h
  refine j_iload_n 2 (pc' := 33) hC dX6_waits_32 rfl rfl ?_
  refine j_bipush (v := 20) (pc' := 35) hC dX6_waits_33 rfl rfl ?_
  refine j_icmp_gt (tgt := 58) (pc' := 38) hC dX6_waits_35 (by decide) rfl (fun c1 => ?_) (fun c1 => ?_)
  · have h := jit_t c1 h
    have q8 := jinj1 h
    subst q8
    refine j_sub [0, 1, 2] rfl ?_
    exact hK _ rfl
  · have h := jit_f c1 h
    refine j_aload_n 0 (pc' := 39) hC dX6_waits_38 rfl rfl ?_
    refine j_aload_n 0 (pc' := 40) hC dX6_waits_39 rfl rfl ?_
    refine j_iload_n 2 (pc' := 41) hC dX6_waits_40 rfl rfl ?_
    obtain ⟨r2, hc3, h⟩ := jb1_s h
    refine j_callVi [.int x2] (pc' := 44) hC dX6_waits_41 rfl (t_X6_shelfOn _ _ hc3) gm0 vcl6 cv_X6_213 ⟨⟨Nat.le_of_ble_eq_true rfl, Nat.le_of_ble_eq_true rfl⟩, rfl, Nat.le_of_ble_eq_true rfl⟩ rfl rfl ?_
    obtain ⟨r4, hc5, h⟩ := jb1_s h
    refine j_callVi [.int r2] (pc' := 47) hC dX6_waits_44 rfl (t_X6_mostOf _ _ hc5) gm0 vcl6 cv_X6_259 ⟨⟨Nat.le_of_ble_eq_true rfl, Nat.le_of_ble_eq_true rfl⟩, rfl, Nat.le_of_ble_eq_true rfl⟩ rfl rfl ?_
    refine j_if_lt (tgt := 52) (pc' := 50) hC dX6_waits_47 (by decide) rfl (fun c6 => ?_) (fun c6 => ?_)
    · have h := jit_t c6 h
      obtain ⟨v7, ev7, h⟩ := jlet_s h
      refine j_iinc' 2 (c := 1) (pc' := 55) hC dX6_waits_52 rfl rfl rfl ev7 (by decide) rfl ?_
      refine j_goto (tgt := 32) (pc' := 0) hC dX6_waits_55 (by decide) ?_
      refine j_sub [1, 2, 0] rfl ?_
      exact ih _ _ res h hQ hK
    · have h := jit_f c6 h
      refine j_iload_n 2 (pc' := 51) hC dX6_waits_50 rfl rfl ?_
      have q8 := jinj1 h
      subst q8
      rw [hQ _ _ rfl]
      exact j_iret hC dX6_waits_51
theorem lp_X6_waits_L32 {Γ : jG} (hC : jOK Γ cX6_waits 3 RX6 (some .int) { frames := 6, cells := 0, slots := 0, locals := 140 }) {Q : State → Prop} (x1 : Int32) : ∀ (n : Nat) (x2 : Int32) (M : jM) (res : (Int32 × jM) ⊕ (Int32)), f_X6_waits_L32 n x2 M = some res → (∀ (r : Int32) (M' : jM), res = .inl (r, M') → Q = jQi Γ RM GM r M') → (∀ (e2 : Int32), res = .inr e2 → jJ Γ GM RM 58 [(0, .ref (jad Γ 0)), (1, .int x1), (2, .int e2)] [] M Q) → jJ Γ GM RM 32 [(0, .ref (jad Γ 0)), (1, .int x1), (2, .int x2)] [] M Q := by
  intro n
  induction n with
  | zero =>
    intro x2 M res h hQ hK
    exact jno h
  | succ n ih =>
    intro x2 M res h hQ hK
    exact lp_X6_waits_L32_b hC x1 (f_X6_waits_L32 n) ih x2 M res h hQ hK
theorem t_X6_waits (l : Launch) (E : jE) {a1 : Int32} {M : jM} {r : Int32} {M' : jM} (h : f_X6_waits a1 M = some (r, M')) : jCi l yX6_waits cX6_waits 3 (some .int) 6 140 E RM GM (fun a _ => [.ref (a 0), .int a1]) M r M' := by
  refine jCi_of (own := RX6) (by decide) rfl (fun _ _ => Nat.le_of_ble_eq_true rfl) ?_
  intro Γ hC
  show jJ Γ GM RM 0 [(0, .ref (jad Γ 0)), (1, .int a1)] [] M (jQi Γ RM GM r M')
  unfold f_X6_waits at h
  refine j_aload_n 0 (pc' := 1) hC dX6_waits_0 rfl rfl ?_
  refine j_iload_n 1 (pc' := 2) hC dX6_waits_1 rfl rfl ?_
  obtain ⟨r1, hc2, h⟩ := jb1_s h
  refine j_callVi [.int a1] (pc' := 5) hC dX6_waits_2 rfl (t_X6_isDeed _ _ hc2) gm0 vcl6 cv_X6_168 ⟨⟨Nat.le_of_ble_eq_true rfl, Nat.le_of_ble_eq_true rfl⟩, rfl, Nat.le_of_ble_eq_true rfl⟩ rfl rfl ?_
  refine j_if_ne (tgt := 10) (pc' := 8) hC dX6_waits_5 (by decide) rfl (fun c3 => ?_) (fun c3 => ?_)
  · have h := jit_f c3 h
    refine j_aload_n 0 (pc' := 11) hC dX6_waits_10 rfl rfl ?_
    refine j_aload_n 0 (pc' := 12) hC dX6_waits_11 rfl rfl ?_
    refine j_bipush (v := 20) (pc' := 14) hC dX6_waits_12 rfl rfl ?_
    obtain ⟨r4, hc5, h⟩ := jb1_s h
    refine j_callVi [.int (20 : Int32)] (pc' := 17) hC dX6_waits_14 rfl (t_X6_shelfOn _ _ hc5) gm0 vcl6 cv_X6_213 ⟨⟨Nat.le_of_ble_eq_true rfl, Nat.le_of_ble_eq_true rfl⟩, rfl, Nat.le_of_ble_eq_true rfl⟩ rfl rfl ?_
    obtain ⟨M6, hc7, h⟩ := jb1_s h
    refine j_callVv [.int r4] (pc' := 20) hC dX6_waits_17 rfl (t_X6_reach _ _ hc7) gm0 vcl6 cv_X6_253 ⟨⟨Nat.le_of_ble_eq_true rfl, Nat.le_of_ble_eq_true rfl⟩, rfl, Nat.le_of_ble_eq_true rfl⟩ rfl rfl ?_
    refine j_aload_n 0 (pc' := 21) hC dX6_waits_20 rfl rfl ?_
    refine j_iload_n 1 (pc' := 22) hC dX6_waits_21 rfl rfl ?_
    obtain ⟨M8, hc9, h⟩ := jb1_s h
    refine j_callVv [.int a1] (pc' := 25) hC dX6_waits_22 rfl (t_X6_findMosts _ _ hc9) gm0 vcl6 cv_X6_256 ⟨⟨Nat.le_of_ble_eq_true rfl, Nat.le_of_ble_eq_true rfl⟩, rfl, Nat.le_of_ble_eq_true rfl⟩ rfl rfl ?_
    refine j_aload_n 0 (pc' := 26) hC dX6_waits_25 rfl rfl ?_
    refine j_getr' (o2 := 12) (pc' := 29) hC dX6_waits_26 rfl fi_X6_43 gm0 rfl ?_
    refine j_iconst (v := 0) (pc' := 30) hC dX6_waits_29 rfl rfl ?_
    refine j_iald (pc' := 31) hC dX6_waits_30 rfl gm12 (by decide) ?_
    obtain ⟨v10, ev10, h⟩ := jlet_s h
    refine j_istore_n (pc' := 32) hC dX6_waits_31 rfl ev10 (by decide) rfl ?_
    refine j_sub [1, 2, 0] rfl ?_
    rcases jr1_s h with hm12 | ⟨v11, hm12, h⟩
    · exact lp_X6_waits_L32 hC a1 jfu v10 M8 _ hm12 (fun _ _ e => by cases e; rfl) (fun _ e => by cases e)
    · refine lp_X6_waits_L32 hC a1 jfu v10 M8 _ hm12 (fun _ _ e => by cases e) (fun _ e => ?_)
      cases e
      refine j_bipush (v := -9) (pc' := 60) hC dX6_waits_58 rfl rfl ?_
      obtain ⟨q0, q1⟩ := jinj2 h
      subst q0
      subst q1
      exact j_iret hC dX6_waits_60
  · have h := jit_t c3 h
    refine j_iconst (v := -1) (pc' := 9) hC dX6_waits_8 rfl rfl ?_
    obtain ⟨q0, q1⟩ := jinj2 h
    subst q0
    subst q1
    exact j_iret hC dX6_waits_9
