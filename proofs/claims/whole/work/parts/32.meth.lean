theorem lp_X6_hoursOf_L4_b {Γ : jG} (hC : jOK Γ cX6_hoursOf 4 RX6 (some .int) { frames := 0, cells := 0, slots := 0, locals := 0 }) {Q : State → Prop} (rec : Int32 → Int32 → Int32 → jM → Option (Int32 × Int32)) (ih : ∀ (x1 : Int32) (x2 : Int32) (x3 : Int32) (M : jM) (e2 : Int32) (e3 : Int32), rec x1 x2 x3 M = some (e2, e3) → jJ Γ GM RM 36 [(0, .ref (jad Γ 0)), (1, .int x1), (2, .int e2), (3, .int e3)] [] M Q → jJ Γ GM RM 4 [(0, .ref (jad Γ 0)), (1, .int x1), (2, .int x2), (3, .int x3)] [] M Q) (x1 : Int32) (x2 : Int32) (x3 : Int32) (M : jM) (e2 : Int32) (e3 : Int32) (h : f_X6_hoursOf_L4_b rec x1 x2 x3 M = some (e2, e3)) (hK : jJ Γ GM RM 36 [(0, .ref (jad Γ 0)), (1, .int x1), (2, .int e2), (3, .int e3)] [] M Q) : jJ Γ GM RM 4 [(0, .ref (jad Γ 0)), (1, .int x1), (2, .int x2), (3, .int x3)] [] M Q := by
  unfold f_X6_hoursOf_L4_b at h
  refine j_iload_n 3 (pc' := 5) hC dX6_hoursOf_4 rfl rfl ?_
  refine j_aload_n 0 (pc' := 6) hC dX6_hoursOf_5 rfl rfl ?_
  refine j_geti' (pc' := 9) hC dX6_hoursOf_6 rfl fi_X6_159 gm0 ?_
  refine j_icmp_ge (tgt := 36) (pc' := 12) hC dX6_hoursOf_9 (by decide) rfl (fun c1 => ?_) (fun c1 => ?_)
  · have h := jit_t c1 h
    obtain ⟨q0, q1⟩ := jinj2 h
    subst q0
    subst q1
    refine j_sub [0, 1, 2, 3] rfl ?_
    exact hK
  · have h := jit_f c1 h
    refine j_iload_n 2 (pc' := 13) hC dX6_hoursOf_12 rfl rfl ?_
    refine j_aload_n 0 (pc' := 14) hC dX6_hoursOf_13 rfl rfl ?_
    refine j_getr' (o2 := 8) (pc' := 17) hC dX6_hoursOf_14 rfl fi_X6_31 gm0 rfl ?_
    refine j_iload_n 3 (pc' := 18) hC dX6_hoursOf_17 rfl rfl ?_
    obtain ⟨g2, h⟩ := jg_s h
    refine j_iald (pc' := 19) hC dX6_hoursOf_18 rfl gm8 g2 ?_
    refine j_iload_n 1 (pc' := 20) hC dX6_hoursOf_19 rfl rfl ?_
    obtain ⟨v4, hm6, h⟩ := jlet_s h
    have K5 : jJ Γ GM RM 28 [(0, .ref (jad Γ 0)), (1, .int x1), (2, .int x2), (3, .int x3)] [.int v4, .int x2] M Q := by
      refine j_iadd (pc' := 29) hC dX6_hoursOf_28 rfl ?_
      obtain ⟨v8, ev8, h⟩ := jlet_s h
      refine j_istore_n (pc' := 30) hC dX6_hoursOf_29 rfl ev8 (by decide) rfl ?_
      obtain ⟨v9, ev9, h⟩ := jlet_s h
      refine j_iinc' 3 (c := 1) (pc' := 33) hC dX6_hoursOf_30 rfl rfl rfl ev9 (by decide) rfl ?_
      refine j_goto (tgt := 4) (pc' := 0) hC dX6_hoursOf_33 (by decide) ?_
      refine j_sub [2, 3, 1, 0] rfl ?_
      exact ih _ _ _ _ _ _ h hK
    refine j_icmp_ne (tgt := 27) (pc' := 23) hC dX6_hoursOf_20 (by decide) rfl (fun c7 => ?_) (fun c7 => ?_)
    · have hm6 := jit_f c7 hm6
      refine j_iconst (v := 0) (pc' := 28) hC dX6_hoursOf_27 rfl rfl ?_
      subst hm6
      exact j_sub [0, 1, 2, 3] rfl K5
    · have hm6 := jit_t c7 hm6
      refine j_iconst (v := 1) (pc' := 24) hC dX6_hoursOf_23 rfl rfl ?_
      refine j_goto (tgt := 28) (pc' := 0) hC dX6_hoursOf_24 (by decide) ?_
      subst hm6
      exact j_sub [0, 1, 2, 3] rfl K5
theorem lp_X6_hoursOf_L4 {Γ : jG} (hC : jOK Γ cX6_hoursOf 4 RX6 (some .int) { frames := 0, cells := 0, slots := 0, locals := 0 }) {Q : State → Prop} : ∀ (n : Nat) (x1 : Int32) (x2 : Int32) (x3 : Int32) (M : jM) (e2 : Int32) (e3 : Int32), f_X6_hoursOf_L4 n x1 x2 x3 M = some (e2, e3) → jJ Γ GM RM 36 [(0, .ref (jad Γ 0)), (1, .int x1), (2, .int e2), (3, .int e3)] [] M Q → jJ Γ GM RM 4 [(0, .ref (jad Γ 0)), (1, .int x1), (2, .int x2), (3, .int x3)] [] M Q := by
  intro n
  induction n with
  | zero =>
    intro x1 x2 x3 M e2 e3 h hK
    exact jno h
  | succ n ih =>
    intro x1 x2 x3 M e2 e3 h hK
    exact lp_X6_hoursOf_L4_b hC (f_X6_hoursOf_L4 n) ih x1 x2 x3 M e2 e3 h hK
theorem t_X6_hoursOf (l : Launch) (E : jE) {a1 : Int32} {M : jM} {r : Int32} (h : f_X6_hoursOf a1 M = some r) : jCi l yX6_hoursOf cX6_hoursOf 4 (some .int) 0 0 E RM GM (fun a _ => [.ref (a 0), .int a1]) M r M := by
  refine jCi_of (own := RX6) (by decide) rfl (fun _ _ => Nat.le_of_ble_eq_true rfl) ?_
  intro Γ hC
  show jJ Γ GM RM 0 [(0, .ref (jad Γ 0)), (1, .int a1)] [] M (jQi Γ RM GM r M)
  unfold f_X6_hoursOf at h
  refine j_iconst (v := 0) (pc' := 1) hC dX6_hoursOf_0 rfl rfl ?_
  refine j_istore_n (pc' := 2) hC dX6_hoursOf_1 rfl rfl (by decide) rfl ?_
  refine j_iconst (v := 0) (pc' := 3) hC dX6_hoursOf_2 rfl rfl ?_
  refine j_istore_n (pc' := 4) hC dX6_hoursOf_3 rfl rfl (by decide) rfl ?_
  refine j_sub [2, 3, 1, 0] rfl ?_
  obtain ⟨v1, v2, hm3, h⟩ := jb2_s h
  refine lp_X6_hoursOf_L4 hC  jfu a1 (0 : Int32) (0 : Int32) M v1 v2 hm3 ?_
  refine j_iload_n 2 (pc' := 37) hC dX6_hoursOf_36 rfl rfl ?_
  have q8 := jinj1 h
  subst q8
  exact j_iret hC dX6_hoursOf_37
theorem lp_X6_lacksDiary_L31_b {Γ : jG} (hC : jOK Γ cX6_lacksDiary 4 RX6 (some .int) { frames := 2, cells := 0, slots := 0, locals := 42 }) {Q : State → Prop} (x2 : Int32) (rec : Int32 → Int32 → jM → Option ((Int32 × jM) ⊕ (Int32 × jM))) (ih : ∀ (x1 : Int32) (x3 : Int32) (M : jM) (res : (Int32 × jM) ⊕ (Int32 × jM)), rec x1 x3 M = some res → (∀ (r : Int32) (M' : jM), res = .inl (r, M') → Q = jQi Γ RM GM r M') → (∀ (e3 : Int32) (Me : jM), res = .inr (e3, Me) → jJ Γ GM RM 75 [(0, .ref (jad Γ 0)), (1, .int x1), (2, .int x2), (3, .int e3)] [] Me Q) → jJ Γ GM RM 31 [(0, .ref (jad Γ 0)), (1, .int x1), (2, .int x2), (3, .int x3)] [] M Q) (x1 : Int32) (x3 : Int32) (M : jM) (res : (Int32 × jM) ⊕ (Int32 × jM)) (h : f_X6_lacksDiary_L31_b rec x1 x3 M = some res) (hQ : ∀ (r : Int32) (M' : jM), res = .inl (r, M') → Q = jQi Γ RM GM r M') (hK : ∀ (e3 : Int32) (Me : jM), res = .inr (e3, Me) → jJ Γ GM RM 75 [(0, .ref (jad Γ 0)), (1, .int x1), (2, .int x2), (3, .int e3)] [] Me Q) : jJ Γ GM RM 31 [(0, .ref (jad Γ 0)), (1, .int x1), (2, .int x2), (3, .int x3)] [] M Q := by
  unfold f_X6_lacksDiary_L31_b at h
  refine j_iload_n 3 (pc' := 32) hC dX6_lacksDiary_31 rfl rfl ?_
  refine j_aload_n 0 (pc' := 33) hC dX6_lacksDiary_32 rfl rfl ?_
  refine j_getr' (o2 := 1) (pc' := 36) hC dX6_lacksDiary_33 rfl fi_X6_7 gm0 rfl ?_
  refine j_iload_n 1 (pc' := 37) hC dX6_lacksDiary_36 rfl rfl ?_
  obtain ⟨g1, h⟩ := jg_s h
  refine j_iald (pc' := 38) hC dX6_lacksDiary_37 rfl gm1 g1 ?_
  refine j_icmp_ge (tgt := 75) (pc' := 41) hC dX6_lacksDiary_38 (by decide) rfl (fun c2 => ?_) (fun c2 => ?_)
  · have h := jit_t c2 h
    have q8 := jinj1 h
    subst q8
    refine j_sub [0, 1, 2, 3] rfl ?_
    exact hK _ _ rfl
  · have h := jit_f c2 h
    refine j_aload_n 0 (pc' := 42) hC dX6_lacksDiary_41 rfl rfl ?_
    refine j_getr' (o2 := 2) (pc' := 45) hC dX6_lacksDiary_42 rfl fi_X6_13 gm0 rfl ?_
    refine j_bipush (v := 40) (pc' := 47) hC dX6_lacksDiary_45 rfl rfl ?_
    refine j_iload_n 1 (pc' := 48) hC dX6_lacksDiary_47 rfl rfl ?_
    refine j_imul (pc' := 49) hC dX6_lacksDiary_48 rfl ?_
    refine j_iload_n 3 (pc' := 50) hC dX6_lacksDiary_49 rfl rfl ?_
    refine j_iadd (pc' := 51) hC dX6_lacksDiary_50 rfl ?_
    obtain ⟨g3, h⟩ := jg_s h
    refine j_iald (pc' := 52) hC dX6_lacksDiary_51 rfl gm2 g3 ?_
    refine j_i2l (pc' := 53) hC dX6_lacksDiary_52 rfl ?_
    refine j_lconst (v := 0) (pc' := 54) hC dX6_lacksDiary_53 rfl rfl ?_
    refine j_ldc2 (pc' := 57) hC dX6_lacksDiary_54 rfl ck_X6_268 ?_
    obtain ⟨r4, hc5, h⟩ := jb1_s h
    refine j_callSi [.long (gi M 2 (((40 : Int32) * x1) + x3).toNatClampNeg).toInt64, .long (0 : Int64), .long (23 : Int64)] (pc' := 60) hC dX6_lacksDiary_57 rfl (t_X6_in _ _ hc5) cs_X6_93 ⟨⟨Nat.le_of_ble_eq_true rfl, Nat.le_of_ble_eq_true rfl⟩, rfl, Nat.le_of_ble_eq_true rfl⟩ rfl rfl ?_
    refine j_if_ne (tgt := 69) (pc' := 63) hC dX6_lacksDiary_60 (by decide) rfl (fun c6 => ?_) (fun c6 => ?_)
    · have h := jit_f c6 h
      obtain ⟨v7, ev7, h⟩ := jlet_s h
      refine j_iinc' 3 (c := 1) (pc' := 72) hC dX6_lacksDiary_69 rfl rfl rfl ev7 (by decide) rfl ?_
      refine j_goto (tgt := 31) (pc' := 0) hC dX6_lacksDiary_72 (by decide) ?_
      refine j_sub [1, 2, 3, 0] rfl ?_
      exact ih _ _ _ res h hQ hK
    · have h := jit_t c6 h
      refine j_aload_n 0 (pc' := 64) hC dX6_lacksDiary_63 rfl rfl ?_
      refine j_iconst (v := 3) (pc' := 65) hC dX6_lacksDiary_64 rfl rfl ?_
      obtain ⟨r8, M9, hc10, h⟩ := jb2_s h
      refine j_callVi [.int (3 : Int32)] (pc' := 68) hC dX6_lacksDiary_65 rfl (t_X6_find _ _ hc10) gm0 vcl6 cv_X6_103 ⟨⟨Nat.le_of_ble_eq_true rfl, Nat.le_of_ble_eq_true rfl⟩, rfl, Nat.le_of_ble_eq_true rfl⟩ rfl rfl ?_
      have q8 := jinj1 h
      subst q8
      rw [hQ _ _ rfl]
      exact j_iret hC dX6_lacksDiary_68
theorem lp_X6_lacksDiary_L31 {Γ : jG} (hC : jOK Γ cX6_lacksDiary 4 RX6 (some .int) { frames := 2, cells := 0, slots := 0, locals := 42 }) {Q : State → Prop} (x2 : Int32) : ∀ (n : Nat) (x1 : Int32) (x3 : Int32) (M : jM) (res : (Int32 × jM) ⊕ (Int32 × jM)), f_X6_lacksDiary_L31 n x1 x3 M = some res → (∀ (r : Int32) (M' : jM), res = .inl (r, M') → Q = jQi Γ RM GM r M') → (∀ (e3 : Int32) (Me : jM), res = .inr (e3, Me) → jJ Γ GM RM 75 [(0, .ref (jad Γ 0)), (1, .int x1), (2, .int x2), (3, .int e3)] [] Me Q) → jJ Γ GM RM 31 [(0, .ref (jad Γ 0)), (1, .int x1), (2, .int x2), (3, .int x3)] [] M Q := by
  intro n
  induction n with
  | zero =>
    intro x1 x3 M res h hQ hK
    exact jno h
  | succ n ih =>
    intro x1 x3 M res h hQ hK
    exact lp_X6_lacksDiary_L31_b hC x2 (f_X6_lacksDiary_L31 n) ih x1 x3 M res h hQ hK
theorem t_X6_lacksDiary (l : Launch) (E : jE) {a1 : Int32} {M : jM} {r : Int32} {M' : jM} (h : f_X6_lacksDiary a1 M = some (r, M')) : jCi l yX6_lacksDiary cX6_lacksDiary 4 (some .int) 2 42 E RM GM (fun a _ => [.ref (a 0), .int a1]) M r M' := by
  refine jCi_of (own := RX6) (by decide) rfl (fun _ _ => Nat.le_of_ble_eq_true rfl) ?_
  intro Γ hC
  show jJ Γ GM RM 0 [(0, .ref (jad Γ 0)), (1, .int a1)] [] M (jQi Γ RM GM r M')
  unfold f_X6_lacksDiary at h
  refine j_aload_n 0 (pc' := 1) hC dX6_lacksDiary_0 rfl rfl ?_
  refine j_iload_n 1 (pc' := 2) hC dX6_lacksDiary_1 rfl rfl ?_
  obtain ⟨r1, M2, hc3, h⟩ := jb2_s h
  refine j_callVi [.int a1] (pc' := 5) hC dX6_lacksDiary_2 rfl (t_X6_lacksRow _ _ hc3) gm0 vcl6 cv_X6_237 ⟨⟨Nat.le_of_ble_eq_true rfl, Nat.le_of_ble_eq_true rfl⟩, rfl, Nat.le_of_ble_eq_true rfl⟩ rfl rfl ?_
  refine j_istore_n (pc' := 6) hC dX6_lacksDiary_5 rfl rfl (by decide) rfl ?_
  refine j_iload_n 0 (pc' := 7) hC dX6_lacksDiary_6 rfl rfl ?_
  refine j_if_ge (tgt := 12) (pc' := 10) hC dX6_lacksDiary_7 (by decide) rfl (fun c4 => ?_) (fun c4 => ?_)
  · have h := jit_t c4 h
    refine j_aload_n 1 (pc' := 13) hC dX6_lacksDiary_12 rfl rfl ?_
    refine j_getr' (o2 := 1) (pc' := 16) hC dX6_lacksDiary_13 rfl fi_X6_7 gm0 rfl ?_
    refine j_iload_n 2 (pc' := 17) hC dX6_lacksDiary_16 rfl rfl ?_
    obtain ⟨g5, h⟩ := jg_s h
    refine j_iald (pc' := 18) hC dX6_lacksDiary_17 rfl gm1 g5 ?_
    refine j_bipush (v := 7) (pc' := 20) hC dX6_lacksDiary_18 rfl rfl ?_
    refine j_icmp_le (tgt := 29) (pc' := 23) hC dX6_lacksDiary_20 (by decide) rfl (fun c6 => ?_) (fun c6 => ?_)
    · have h := jit_t c6 h
      refine j_iconst (v := 0) (pc' := 30) hC dX6_lacksDiary_29 rfl rfl ?_
      refine j_istore_n (pc' := 31) hC dX6_lacksDiary_30 rfl rfl (by decide) rfl ?_
      refine j_sub [2, 3, 1, 0] rfl ?_
      rcases jr2_s h with hm9 | ⟨v7, M8, hm9, h⟩
      · exact lp_X6_lacksDiary_L31 hC r1 jfu a1 (0 : Int32) M2 _ hm9 (fun _ _ e => by cases e; rfl) (fun _ _ e => by cases e)
      · refine lp_X6_lacksDiary_L31 hC r1 jfu a1 (0 : Int32) M2 _ hm9 (fun _ _ e => by cases e) (fun _ _ e => ?_)
        cases e
        refine j_iconst (v := 0) (pc' := 76) hC dX6_lacksDiary_75 rfl rfl ?_
        obtain ⟨q0, q1⟩ := jinj2 h
        subst q0
        subst q1
        exact j_iret hC dX6_lacksDiary_76
    · have h := jit_f c6 h
      refine j_aload_n 1 (pc' := 24) hC dX6_lacksDiary_23 rfl rfl ?_
      refine j_iconst (v := 5) (pc' := 25) hC dX6_lacksDiary_24 rfl rfl ?_
      obtain ⟨r10, M11, hc12, h⟩ := jb2_s h
      refine j_callVi [.int (5 : Int32)] (pc' := 28) hC dX6_lacksDiary_25 rfl (t_X6_find _ _ hc12) gm0 vcl6 cv_X6_103 ⟨⟨Nat.le_of_ble_eq_true rfl, Nat.le_of_ble_eq_true rfl⟩, rfl, Nat.le_of_ble_eq_true rfl⟩ rfl rfl ?_
      obtain ⟨q0, q1⟩ := jinj2 h
      subst q0
      subst q1
      exact j_iret hC dX6_lacksDiary_28
  · have h := jit_f c4 h
    refine j_iload_n 0 (pc' := 11) hC dX6_lacksDiary_10 rfl rfl ?_
    obtain ⟨q0, q1⟩ := jinj2 h
    subst q0
    subst q1
    exact j_iret hC dX6_lacksDiary_11
theorem lp_X6_leftFor_L19_b {Γ : jG} (hC : jOK Γ cX6_leftFor 5 RX6 (some .int) { frames := 1, cells := 0, slots := 0, locals := 23 }) {Q : State → Prop} (rec : Int32 → Int32 → Int32 → Int32 → jM → Option (Int32 × Int32)) (ih : ∀ (x1 : Int32) (x2 : Int32) (x3 : Int32) (x4 : Int32) (M : jM) (e3 : Int32) (e4 : Int32), rec x1 x2 x3 x4 M = some (e3, e4) → jJ Γ GM RM 65 [(0, .ref (jad Γ 0)), (1, .int x1), (2, .int x2), (3, .int e3), (4, .int e4)] [] M Q → jJ Γ GM RM 19 [(0, .ref (jad Γ 0)), (1, .int x1), (2, .int x2), (3, .int x3), (4, .int x4)] [] M Q) (x1 : Int32) (x2 : Int32) (x3 : Int32) (x4 : Int32) (M : jM) (e3 : Int32) (e4 : Int32) (h : f_X6_leftFor_L19_b rec x1 x2 x3 x4 M = some (e3, e4)) (hK : jJ Γ GM RM 65 [(0, .ref (jad Γ 0)), (1, .int x1), (2, .int x2), (3, .int e3), (4, .int e4)] [] M Q) : jJ Γ GM RM 19 [(0, .ref (jad Γ 0)), (1, .int x1), (2, .int x2), (3, .int x3), (4, .int x4)] [] M Q := by
  unfold f_X6_leftFor_L19_b at h
  refine j_iload 4 (pc' := 21) hC dX6_leftFor_19 rfl rfl ?_
  refine j_iload_n 2 (pc' := 22) hC dX6_leftFor_21 rfl rfl ?_
  refine j_icmp_ge (tgt := 65) (pc' := 25) hC dX6_leftFor_22 (by decide) rfl (fun c1 => ?_) (fun c1 => ?_)
  · have h := jit_t c1 h
    obtain ⟨q0, q1⟩ := jinj2 h
    subst q0
    subst q1
    refine j_sub [0, 1, 2, 3, 4] rfl ?_
    exact hK
  · have h := jit_f c1 h
    refine j_iload_n 3 (pc' := 26) hC dX6_leftFor_25 rfl rfl ?_
    refine j_aload_n 0 (pc' := 27) hC dX6_leftFor_26 rfl rfl ?_
    refine j_getr' (o2 := 2) (pc' := 30) hC dX6_leftFor_27 rfl fi_X6_13 gm0 rfl ?_
    refine j_bipush (v := 40) (pc' := 32) hC dX6_leftFor_30 rfl rfl ?_
    refine j_iload_n 1 (pc' := 33) hC dX6_leftFor_32 rfl rfl ?_
    refine j_imul (pc' := 34) hC dX6_leftFor_33 rfl ?_
    refine j_iload 4 (pc' := 36) hC dX6_leftFor_34 rfl rfl ?_
    refine j_iadd (pc' := 37) hC dX6_leftFor_36 rfl ?_
    obtain ⟨g2, h⟩ := jg_s h
    refine j_iald (pc' := 38) hC dX6_leftFor_37 rfl gm2 g2 ?_
    refine j_aload_n 0 (pc' := 39) hC dX6_leftFor_38 rfl rfl ?_
    refine j_getr' (o2 := 2) (pc' := 42) hC dX6_leftFor_39 rfl fi_X6_13 gm0 rfl ?_
    refine j_bipush (v := 40) (pc' := 44) hC dX6_leftFor_42 rfl rfl ?_
    refine j_iload_n 1 (pc' := 45) hC dX6_leftFor_44 rfl rfl ?_
    refine j_imul (pc' := 46) hC dX6_leftFor_45 rfl ?_
    refine j_iload_n 2 (pc' := 47) hC dX6_leftFor_46 rfl rfl ?_
    refine j_iadd (pc' := 48) hC dX6_leftFor_47 rfl ?_
    obtain ⟨g3, h⟩ := jg_s h
    refine j_iald (pc' := 49) hC dX6_leftFor_48 rfl gm2 g3 ?_
    obtain ⟨v5, hm7, h⟩ := jlet_s h
    have K6 : jJ Γ GM RM 57 [(0, .ref (jad Γ 0)), (1, .int x1), (2, .int x2), (3, .int x3), (4, .int x4)] [.int v5, .int x3] M Q := by
      refine j_isub (pc' := 58) hC dX6_leftFor_57 rfl ?_
      obtain ⟨v9, ev9, h⟩ := jlet_s h
      refine j_istore_n (pc' := 59) hC dX6_leftFor_58 rfl ev9 (by decide) rfl ?_
      obtain ⟨v10, ev10, h⟩ := jlet_s h
      refine j_iinc' 4 (c := 1) (pc' := 62) hC dX6_leftFor_59 rfl rfl rfl ev10 (by decide) rfl ?_
      refine j_goto (tgt := 19) (pc' := 0) hC dX6_leftFor_62 (by decide) ?_
      refine j_sub [2, 3, 4, 1, 0] rfl ?_
      exact ih _ _ _ _ _ _ _ h hK
    refine j_icmp_ne (tgt := 56) (pc' := 52) hC dX6_leftFor_49 (by decide) rfl (fun c8 => ?_) (fun c8 => ?_)
    · have hm7 := jit_f c8 hm7
      refine j_iconst (v := 0) (pc' := 57) hC dX6_leftFor_56 rfl rfl ?_
      subst hm7
      exact j_sub [0, 1, 2, 3, 4] rfl K6
    · have hm7 := jit_t c8 hm7
      refine j_iconst (v := 1) (pc' := 53) hC dX6_leftFor_52 rfl rfl ?_
      refine j_goto (tgt := 57) (pc' := 0) hC dX6_leftFor_53 (by decide) ?_
      subst hm7
      exact j_sub [0, 1, 2, 3, 4] rfl K6
theorem lp_X6_leftFor_L19 {Γ : jG} (hC : jOK Γ cX6_leftFor 5 RX6 (some .int) { frames := 1, cells := 0, slots := 0, locals := 23 }) {Q : State → Prop} : ∀ (n : Nat) (x1 : Int32) (x2 : Int32) (x3 : Int32) (x4 : Int32) (M : jM) (e3 : Int32) (e4 : Int32), f_X6_leftFor_L19 n x1 x2 x3 x4 M = some (e3, e4) → jJ Γ GM RM 65 [(0, .ref (jad Γ 0)), (1, .int x1), (2, .int x2), (3, .int e3), (4, .int e4)] [] M Q → jJ Γ GM RM 19 [(0, .ref (jad Γ 0)), (1, .int x1), (2, .int x2), (3, .int x3), (4, .int x4)] [] M Q := by
  intro n
  induction n with
  | zero =>
    intro x1 x2 x3 x4 M e3 e4 h hK
    exact jno h
  | succ n ih =>
    intro x1 x2 x3 x4 M e3 e4 h hK
    exact lp_X6_leftFor_L19_b hC (f_X6_leftFor_L19 n) ih x1 x2 x3 x4 M e3 e4 h hK
theorem t_X6_leftFor (l : Launch) (E : jE) {a1 : Int32} {a2 : Int32} {M : jM} {r : Int32} (h : f_X6_leftFor a1 a2 M = some r) : jCi l yX6_leftFor cX6_leftFor 5 (some .int) 1 23 E RM GM (fun a _ => [.ref (a 0), .int a1, .int a2]) M r M := by
  refine jCi_of (own := RX6) (by decide) rfl (fun _ _ => Nat.le_of_ble_eq_true rfl) ?_
  intro Γ hC
  show jJ Γ GM RM 0 [(0, .ref (jad Γ 0)), (1, .int a1), (2, .int a2)] [] M (jQi Γ RM GM r M)
  unfold f_X6_leftFor at h
  refine j_aload_n 0 (pc' := 1) hC dX6_leftFor_0 rfl rfl ?_
  refine j_aload_n 0 (pc' := 2) hC dX6_leftFor_1 rfl rfl ?_
  refine j_getr' (o2 := 2) (pc' := 5) hC dX6_leftFor_2 rfl fi_X6_13 gm0 rfl ?_
  refine j_bipush (v := 40) (pc' := 7) hC dX6_leftFor_5 rfl rfl ?_
  refine j_iload_n 1 (pc' := 8) hC dX6_leftFor_7 rfl rfl ?_
  refine j_imul (pc' := 9) hC dX6_leftFor_8 rfl ?_
  refine j_iload_n 2 (pc' := 10) hC dX6_leftFor_9 rfl rfl ?_
  refine j_iadd (pc' := 11) hC dX6_leftFor_10 rfl ?_
  obtain ⟨g1, h⟩ := jg_s h
  refine j_iald (pc' := 12) hC dX6_leftFor_11 rfl gm2 g1 ?_
  obtain ⟨r2, hc3, h⟩ := jb1_s h
  refine j_callVi [.int (gi M 2 (((40 : Int32) * a1) + a2).toNatClampNeg)] (pc' := 15) hC dX6_leftFor_12 rfl (t_X6_hoursOf _ _ hc3) gm0 vcl6 cv_X6_270 ⟨⟨Nat.le_of_ble_eq_true rfl, Nat.le_of_ble_eq_true rfl⟩, rfl, Nat.le_of_ble_eq_true rfl⟩ rfl rfl ?_
  refine j_istore_n (pc' := 16) hC dX6_leftFor_15 rfl rfl (by decide) rfl ?_
  refine j_iconst (v := 0) (pc' := 17) hC dX6_leftFor_16 rfl rfl ?_
  refine j_istore (pc' := 19) hC dX6_leftFor_17 rfl rfl (by decide) rfl ?_
  refine j_sub [2, 3, 4, 1, 0] rfl ?_
  obtain ⟨v4, v5, hm6, h⟩ := jb2_s h
  refine lp_X6_leftFor_L19 hC  jfu a1 a2 r2 (0 : Int32) M v4 v5 hm6 ?_
  refine j_iload_n 3 (pc' := 66) hC dX6_leftFor_65 rfl rfl ?_
  have q8 := jinj1 h
  subst q8
  exact j_iret hC dX6_leftFor_66
theorem lp_X6_diary_L26_b {Γ : jG} (hC : jOK Γ cX6_diary 6 RX6 (some .int) { frames := 3, cells := 0, slots := 0, locals := 65 }) {Q : State → Prop} (x2 : Int32) (rec : Int32 → Int32 → Int32 → jM → Option (Int32 × Int32)) (ih : ∀ (x1 : Int32) (x3 : Int32) (x4 : Int32) (M : jM) (e3 : Int32) (e4 : Int32), rec x1 x3 x4 M = some (e3, e4) → jJ Γ GM RM 67 [(0, .ref (jad Γ 0)), (1, .int x1), (2, .int x2), (3, .int e3), (4, .int e4)] [] M Q → jJ Γ GM RM 26 [(0, .ref (jad Γ 0)), (1, .int x1), (2, .int x2), (3, .int x3), (4, .int x4)] [] M Q) (x1 : Int32) (x3 : Int32) (x4 : Int32) (M : jM) (e3 : Int32) (e4 : Int32) (h : f_X6_diary_L26_b rec x1 x3 x4 M = some (e3, e4)) (hK : jJ Γ GM RM 67 [(0, .ref (jad Γ 0)), (1, .int x1), (2, .int x2), (3, .int e3), (4, .int e4)] [] M Q) : jJ Γ GM RM 26 [(0, .ref (jad Γ 0)), (1, .int x1), (2, .int x2), (3, .int x3), (4, .int x4)] [] M Q := by
  unfold f_X6_diary_L26_b at h
  refine j_iload 4 (pc' := 28) hC dX6_diary_26 rfl rfl ?_
  refine j_aload_n 0 (pc' := 29) hC dX6_diary_28 rfl rfl ?_
  refine j_getr' (o2 := 1) (pc' := 32) hC dX6_diary_29 rfl fi_X6_7 gm0 rfl ?_
  refine j_iload_n 1 (pc' := 33) hC dX6_diary_32 rfl rfl ?_
  obtain ⟨g1, h⟩ := jg_s h
  refine j_iald (pc' := 34) hC dX6_diary_33 rfl gm1 g1 ?_
  refine j_icmp_ge (tgt := 67) (pc' := 37) hC dX6_diary_34 (by decide) rfl (fun c2 => ?_) (fun c2 => ?_)
  · have h := jit_t c2 h
    obtain ⟨q0, q1⟩ := jinj2 h
    subst q0
    subst q1
    refine j_sub [0, 1, 2, 3, 4] rfl ?_
    exact hK
  · have h := jit_f c2 h
    refine j_iload_n 3 (pc' := 38) hC dX6_diary_37 rfl rfl ?_
    refine j_aload_n 0 (pc' := 39) hC dX6_diary_38 rfl rfl ?_
    refine j_iload_n 1 (pc' := 40) hC dX6_diary_39 rfl rfl ?_
    refine j_iload 4 (pc' := 42) hC dX6_diary_40 rfl rfl ?_
    obtain ⟨r3, hc4, h⟩ := jb1_s h
    refine j_callVi [.int x1, .int x4] (pc' := 45) hC dX6_diary_42 rfl (t_X6_leftFor _ _ hc4) gm0 vcl6 cv_X6_276 ⟨⟨Nat.le_of_ble_eq_true rfl, Nat.le_of_ble_eq_true rfl⟩, rfl, Nat.le_of_ble_eq_true rfl⟩ rfl rfl ?_
    obtain ⟨v8, hm10, h⟩ := jb1_s h
    have K9 : jJ Γ GM RM 59 [(0, .ref (jad Γ 0)), (1, .int x1), (2, .int x2), (3, .int x3), (4, .int x4)] [.int v8, .int x3] M Q := by
      refine j_imul (pc' := 60) hC dX6_diary_59 rfl ?_
      obtain ⟨v14, ev14, h⟩ := jlet_s h
      refine j_istore_n (pc' := 61) hC dX6_diary_60 rfl ev14 (by decide) rfl ?_
      obtain ⟨v15, ev15, h⟩ := jlet_s h
      refine j_iinc' 4 (c := 1) (pc' := 64) hC dX6_diary_61 rfl rfl rfl ev15 (by decide) rfl ?_
      refine j_goto (tgt := 26) (pc' := 0) hC dX6_diary_64 (by decide) ?_
      refine j_sub [2, 3, 4, 1, 0] rfl ?_
      exact ih _ _ _ _ _ _ h hK
    refine j_if_ge (tgt := 52) (pc' := 48) hC dX6_diary_45 (by decide) rfl (fun c11 => ?_) (fun c11 => ?_)
    · have hm10 := jit_t c11 hm10
      refine j_aload_n 0 (pc' := 53) hC dX6_diary_52 rfl rfl ?_
      refine j_iload_n 1 (pc' := 54) hC dX6_diary_53 rfl rfl ?_
      refine j_iload 4 (pc' := 56) hC dX6_diary_54 rfl rfl ?_
      obtain ⟨r12, hc13, hm10⟩ := jb1_s hm10
      refine j_callVi [.int x1, .int x4] (pc' := 59) hC dX6_diary_56 rfl (t_X6_leftFor _ _ hc13) gm0 vcl6 cv_X6_276 ⟨⟨Nat.le_of_ble_eq_true rfl, Nat.le_of_ble_eq_true rfl⟩, rfl, Nat.le_of_ble_eq_true rfl⟩ rfl rfl ?_
      have q8 := jinj1 hm10
      subst q8
      exact j_sub [0, 1, 2, 3, 4] rfl K9
    · have hm10 := jit_f c11 hm10
      refine j_iconst (v := 0) (pc' := 49) hC dX6_diary_48 rfl rfl ?_
      refine j_goto (tgt := 59) (pc' := 0) hC dX6_diary_49 (by decide) ?_
      have q8 := jinj1 hm10
      subst q8
      exact j_sub [0, 1, 2, 3, 4] rfl K9
theorem lp_X6_diary_L26 {Γ : jG} (hC : jOK Γ cX6_diary 6 RX6 (some .int) { frames := 3, cells := 0, slots := 0, locals := 65 }) {Q : State → Prop} (x2 : Int32) : ∀ (n : Nat) (x1 : Int32) (x3 : Int32) (x4 : Int32) (M : jM) (e3 : Int32) (e4 : Int32), f_X6_diary_L26 n x1 x3 x4 M = some (e3, e4) → jJ Γ GM RM 67 [(0, .ref (jad Γ 0)), (1, .int x1), (2, .int x2), (3, .int e3), (4, .int e4)] [] M Q → jJ Γ GM RM 26 [(0, .ref (jad Γ 0)), (1, .int x1), (2, .int x2), (3, .int x3), (4, .int x4)] [] M Q := by
  intro n
  induction n with
  | zero =>
    intro x1 x3 x4 M e3 e4 h hK
    exact jno h
  | succ n ih =>
    intro x1 x3 x4 M e3 e4 h hK
    exact lp_X6_diary_L26_b hC x2 (f_X6_diary_L26 n) ih x1 x3 x4 M e3 e4 h hK
theorem lp_X6_diary_L79_b {Γ : jG} (hC : jOK Γ cX6_diary 6 RX6 (some .int) { frames := 3, cells := 0, slots := 0, locals := 65 }) {Q : State → Prop} (x2 : Int32) (rec : Int32 → Int32 → Int32 → Int32 → jM → Option (Int32 × Int32)) (ih : ∀ (x1 : Int32) (x3 : Int32) (x4 : Int32) (x5 : Int32) (M : jM) (e4 : Int32) (e5 : Int32), rec x1 x3 x4 x5 M = some (e4, e5) → jJ Γ GM RM 131 [(0, .ref (jad Γ 0)), (1, .int x1), (2, .int x2), (3, .int x3), (4, .int e4), (5, .int e5)] [] M Q → jJ Γ GM RM 79 [(0, .ref (jad Γ 0)), (1, .int x1), (2, .int x2), (3, .int x3), (4, .int x4), (5, .int x5)] [] M Q) (x1 : Int32) (x3 : Int32) (x4 : Int32) (x5 : Int32) (M : jM) (e4 : Int32) (e5 : Int32) (h : f_X6_diary_L79_b rec x1 x3 x4 x5 M = some (e4, e5)) (hK : jJ Γ GM RM 131 [(0, .ref (jad Γ 0)), (1, .int x1), (2, .int x2), (3, .int x3), (4, .int e4), (5, .int e5)] [] M Q) : jJ Γ GM RM 79 [(0, .ref (jad Γ 0)), (1, .int x1), (2, .int x2), (3, .int x3), (4, .int x4), (5, .int x5)] [] M Q := by
  unfold f_X6_diary_L79_b at h
  refine j_iload 5 (pc' := 81) hC dX6_diary_79 rfl rfl ?_
  refine j_if_lt (tgt := 131) (pc' := 84) hC dX6_diary_81 (by decide) rfl (fun c1 => ?_) (fun c1 => ?_)
  · have h := jit_t c1 h
    obtain ⟨q0, q1⟩ := jinj2 h
    subst q0
    subst q1
    refine j_sub [0, 1, 2, 3, 4, 5] rfl ?_
    exact hK
  · have h := jit_f c1 h
    refine j_iload_n 3 (pc' := 85) hC dX6_diary_84 rfl rfl ?_
    obtain ⟨v8, hm10, h⟩ := jb1_s h
    have K9 : jJ Γ GM RM 123 [(0, .ref (jad Γ 0)), (1, .int x1), (2, .int x2), (3, .int x3), (4, .int x4), (5, .int x5)] [.int v8] M Q := by
      refine j_istore (pc' := 125) hC dX6_diary_123 rfl rfl (by decide) rfl ?_
      obtain ⟨v17, ev17, h⟩ := jlet_s h
      refine j_iinc' 5 (c := -1) (pc' := 128) hC dX6_diary_125 rfl rfl rfl ev17 (by decide) rfl ?_
      refine j_goto (tgt := 79) (pc' := 0) hC dX6_diary_128 (by decide) ?_
      refine j_sub [2, 3, 4, 5, 1, 0] rfl ?_
      exact ih _ _ _ _ _ _ _ h hK
    refine j_if_le (tgt := 121) (pc' := 88) hC dX6_diary_85 (by decide) rfl (fun c11 => ?_) (fun c11 => ?_)
    · have hm10 := jit_t c11 hm10
      refine j_iload 4 (pc' := 123) hC dX6_diary_121 rfl rfl ?_
      have q8 := jinj1 hm10
      subst q8
      exact j_sub [0, 1, 2, 3, 4, 5] rfl K9
    · have hm10 := jit_f c11 hm10
      refine j_aload_n 0 (pc' := 89) hC dX6_diary_88 rfl rfl ?_
      refine j_getr' (o2 := 1) (pc' := 92) hC dX6_diary_89 rfl fi_X6_7 gm0 rfl ?_
      refine j_iload_n 1 (pc' := 93) hC dX6_diary_92 rfl rfl ?_
      obtain ⟨g12, hm10⟩ := jg_s hm10
      refine j_iald (pc' := 94) hC dX6_diary_93 rfl gm1 g12 ?_
      refine j_if_le (tgt := 121) (pc' := 97) hC dX6_diary_94 (by decide) rfl (fun c13 => ?_) (fun c13 => ?_)
      · have hm10 := jit_t c13 hm10
        refine j_iload 4 (pc' := 123) hC dX6_diary_121 rfl rfl ?_
        have q8 := jinj1 hm10
        subst q8
        exact j_sub [0, 1, 2, 3, 4, 5] rfl K9
      · have hm10 := jit_f c13 hm10
        refine j_aload_n 0 (pc' := 98) hC dX6_diary_97 rfl rfl ?_
        refine j_getr' (o2 := 8) (pc' := 101) hC dX6_diary_98 rfl fi_X6_31 gm0 rfl ?_
        refine j_iload 5 (pc' := 103) hC dX6_diary_101 rfl rfl ?_
        obtain ⟨g14, hm10⟩ := jg_s hm10
        refine j_iald (pc' := 104) hC dX6_diary_103 rfl gm8 g14 ?_
        refine j_aload_n 0 (pc' := 105) hC dX6_diary_104 rfl rfl ?_
        refine j_getr' (o2 := 2) (pc' := 108) hC dX6_diary_105 rfl fi_X6_13 gm0 rfl ?_
        refine j_bipush (v := 40) (pc' := 110) hC dX6_diary_108 rfl rfl ?_
        refine j_iload_n 1 (pc' := 111) hC dX6_diary_110 rfl rfl ?_
        refine j_imul (pc' := 112) hC dX6_diary_111 rfl ?_
        obtain ⟨g15, hm10⟩ := jg_s hm10
        refine j_iald (pc' := 113) hC dX6_diary_112 rfl gm2 g15 ?_
        refine j_icmp_ne (tgt := 121) (pc' := 116) hC dX6_diary_113 (by decide) rfl (fun c16 => ?_) (fun c16 => ?_)
        · have hm10 := jit_f c16 hm10
          refine j_iload 4 (pc' := 123) hC dX6_diary_121 rfl rfl ?_
          have q8 := jinj1 hm10
          subst q8
          exact j_sub [0, 1, 2, 3, 4, 5] rfl K9
        · have hm10 := jit_t c16 hm10
          refine j_iload 5 (pc' := 118) hC dX6_diary_116 rfl rfl ?_
          refine j_goto (tgt := 123) (pc' := 0) hC dX6_diary_118 (by decide) ?_
          have q8 := jinj1 hm10
          subst q8
          exact j_sub [0, 1, 2, 3, 4, 5] rfl K9
theorem lp_X6_diary_L79 {Γ : jG} (hC : jOK Γ cX6_diary 6 RX6 (some .int) { frames := 3, cells := 0, slots := 0, locals := 65 }) {Q : State → Prop} (x2 : Int32) : ∀ (n : Nat) (x1 : Int32) (x3 : Int32) (x4 : Int32) (x5 : Int32) (M : jM) (e4 : Int32) (e5 : Int32), f_X6_diary_L79 n x1 x3 x4 x5 M = some (e4, e5) → jJ Γ GM RM 131 [(0, .ref (jad Γ 0)), (1, .int x1), (2, .int x2), (3, .int x3), (4, .int e4), (5, .int e5)] [] M Q → jJ Γ GM RM 79 [(0, .ref (jad Γ 0)), (1, .int x1), (2, .int x2), (3, .int x3), (4, .int x4), (5, .int x5)] [] M Q := by
  intro n
  induction n with
  | zero =>
    intro x1 x3 x4 x5 M e4 e5 h hK
    exact jno h
  | succ n ih =>
    intro x1 x3 x4 x5 M e4 e5 h hK
    exact lp_X6_diary_L79_b hC x2 (f_X6_diary_L79 n) ih x1 x3 x4 x5 M e4 e5 h hK
theorem t_X6_diary (l : Launch) (E : jE) {a1 : Int32} {M : jM} {r : Int32} {M' : jM} (h : f_X6_diary a1 M = some (r, M')) : jCi l yX6_diary cX6_diary 6 (some .int) 3 65 E RM GM (fun a _ => [.ref (a 0), .int a1]) M r M' := by
  refine jCi_of (own := RX6) (by decide) rfl (fun _ _ => Nat.le_of_ble_eq_true rfl) ?_
  intro Γ hC
  show jJ Γ GM RM 0 [(0, .ref (jad Γ 0)), (1, .int a1)] [] M (jQi Γ RM GM r M')
  unfold f_X6_diary at h
  refine j_iload_n 1 (pc' := 1) hC dX6_diary_0 rfl rfl ?_
  obtain ⟨r1, hc2, h⟩ := jb1_s h
  refine j_callSi [.int a1] (pc' := 4) hC dX6_diary_1 rfl (t_X6_isRow _ _ hc2) cs_X6_99 ⟨⟨Nat.le_of_ble_eq_true rfl, Nat.le_of_ble_eq_true rfl⟩, rfl, Nat.le_of_ble_eq_true rfl⟩ rfl rfl ?_
  refine j_if_ne (tgt := 9) (pc' := 7) hC dX6_diary_4 (by decide) rfl (fun c3 => ?_) (fun c3 => ?_)
  · have h := jit_f c3 h
    refine j_aload_n 0 (pc' := 10) hC dX6_diary_9 rfl rfl ?_
    refine j_iload_n 1 (pc' := 11) hC dX6_diary_10 rfl rfl ?_
    obtain ⟨r4, M5, hc6, h⟩ := jb2_s h
    refine j_callVi [.int a1] (pc' := 14) hC dX6_diary_11 rfl (t_X6_lacksDiary _ _ hc6) gm0 vcl6 cv_X6_273 ⟨⟨Nat.le_of_ble_eq_true rfl, Nat.le_of_ble_eq_true rfl⟩, rfl, Nat.le_of_ble_eq_true rfl⟩ rfl rfl ?_
    refine j_istore_n (pc' := 15) hC dX6_diary_14 rfl rfl (by decide) rfl ?_
    refine j_iload_n 0 (pc' := 16) hC dX6_diary_15 rfl rfl ?_
    refine j_if_ge (tgt := 21) (pc' := 19) hC dX6_diary_16 (by decide) rfl (fun c7 => ?_) (fun c7 => ?_)
    · have h := jit_t c7 h
      refine j_iconst (v := 1) (pc' := 22) hC dX6_diary_21 rfl rfl ?_
      refine j_istore_n (pc' := 23) hC dX6_diary_22 rfl rfl (by decide) rfl ?_
      refine j_iconst (v := 0) (pc' := 24) hC dX6_diary_23 rfl rfl ?_
      refine j_istore (pc' := 26) hC dX6_diary_24 rfl rfl (by decide) rfl ?_
      refine j_sub [3, 4, 2, 1, 0] rfl ?_
      obtain ⟨v8, v9, hm10, h⟩ := jb2_s h
      refine lp_X6_diary_L26 hC r4 jfu a1 (1 : Int32) (0 : Int32) M5 v8 v9 hm10 ?_
      refine j_bipush (v := -9) (pc' := 69) hC dX6_diary_67 rfl rfl ?_
      refine j_istore (pc' := 71) hC dX6_diary_69 rfl rfl (by decide) rfl ?_
      refine j_aload_n 1 (pc' := 72) hC dX6_diary_71 rfl rfl ?_
      refine j_geti' (pc' := 75) hC dX6_diary_72 rfl fi_X6_159 gm0 ?_
      refine j_iconst (v := 1) (pc' := 76) hC dX6_diary_75 rfl rfl ?_
      refine j_isub (pc' := 77) hC dX6_diary_76 rfl ?_
      obtain ⟨v11, ev11, h⟩ := jlet_s h
      refine j_istore (pc' := 79) hC dX6_diary_77 rfl ev11 (by decide) rfl ?_
      refine j_sub [2, 3, 4, 5, 1, 0] rfl ?_
      obtain ⟨v12, v13, hm14, h⟩ := jb2_s h
      refine lp_X6_diary_L79 hC r4 jfu a1 v8 (-9 : Int32) v11 M5 v12 v13 hm14 ?_
      refine j_aload_n 0 (pc' := 132) hC dX6_diary_131 rfl rfl ?_
      refine j_iload_n 3 (pc' := 133) hC dX6_diary_132 rfl rfl ?_
      refine j_iload 4 (pc' := 135) hC dX6_diary_133 rfl rfl ?_
      obtain ⟨r15, M16, hc17, h⟩ := jb2_s h
      refine j_callVi [.int v8, .int v12] (pc' := 138) hC dX6_diary_135 rfl (t_X6_answer _ _ hc17) gm0 vcl6 cv_X6_111 ⟨⟨Nat.le_of_ble_eq_true rfl, Nat.le_of_ble_eq_true rfl⟩, rfl, Nat.le_of_ble_eq_true rfl⟩ rfl rfl ?_
      obtain ⟨q0, q1⟩ := jinj2 h
      subst q0
      subst q1
      exact j_iret hC dX6_diary_138
    · have h := jit_f c7 h
      refine j_iload_n 0 (pc' := 20) hC dX6_diary_19 rfl rfl ?_
      obtain ⟨q0, q1⟩ := jinj2 h
      subst q0
      subst q1
      exact j_iret hC dX6_diary_20
  · have h := jit_t c3 h
    refine j_iconst (v := -1) (pc' := 8) hC dX6_diary_7 rfl rfl ?_
    obtain ⟨q0, q1⟩ := jinj2 h
    subst q0
    subst q1
    exact j_iret hC dX6_diary_8
theorem lp_X6_forged_L23_b {Γ : jG} (hC : jOK Γ cX6_forged 4 RX6 (some .int) { frames := 3, cells := 0, slots := 0, locals := 65 }) {Q : State → Prop} (x2 : Int32) (rec : Int32 → Int32 → jM → Option ((Int32 × jM) ⊕ (Int32))) (ih : ∀ (x1 : Int32) (x3 : Int32) (M : jM) (res : (Int32 × jM) ⊕ (Int32)), rec x1 x3 M = some res → (∀ (r : Int32) (M' : jM), res = .inl (r, M') → Q = jQi Γ RM GM r M') → (∀ (e3 : Int32), res = .inr e3 → jJ Γ GM RM 51 [(0, .ref (jad Γ 0)), (1, .int x1), (2, .int x2), (3, .int e3)] [] M Q) → jJ Γ GM RM 23 [(0, .ref (jad Γ 0)), (1, .int x1), (2, .int x2), (3, .int x3)] [] M Q) (x1 : Int32) (x3 : Int32) (M : jM) (res : (Int32 × jM) ⊕ (Int32)) (h : f_X6_forged_L23_b rec x1 x3 M = some res) (hQ : ∀ (r : Int32) (M' : jM), res = .inl (r, M') → Q = jQi Γ RM GM r M') (hK : ∀ (e3 : Int32), res = .inr e3 → jJ Γ GM RM 51 [(0, .ref (jad Γ 0)), (1, .int x1), (2, .int x2), (3, .int e3)] [] M Q) : jJ Γ GM RM 23 [(0, .ref (jad Γ 0)), (1, .int x1), (2, .int x2), (3, .int x3)] [] M Q := by
  unfold f_X6_forged_L23_b at h
  refine j_iload_n 3 (pc' := 24) hC dX6_forged_23 rfl rfl ?_
  refine j_aload_n 0 (pc' := 25) hC dX6_forged_24 rfl rfl ?_
  refine j_getr' (o2 := 1) (pc' := 28) hC dX6_forged_25 rfl fi_X6_7 gm0 rfl ?_
  refine j_iload_n 1 (pc' := 29) hC dX6_forged_28 rfl rfl ?_
  obtain ⟨g1, h⟩ := jg_s h
  refine j_iald (pc' := 30) hC dX6_forged_29 rfl gm1 g1 ?_
  refine j_icmp_ge (tgt := 51) (pc' := 33) hC dX6_forged_30 (by decide) rfl (fun c2 => ?_) (fun c2 => ?_)
  · have h := jit_t c2 h
    have q8 := jinj1 h
    subst q8
    refine j_sub [0, 1, 2, 3] rfl ?_
    exact hK _ rfl
  · have h := jit_f c2 h
    refine j_aload_n 0 (pc' := 34) hC dX6_forged_33 rfl rfl ?_
    refine j_iload_n 1 (pc' := 35) hC dX6_forged_34 rfl rfl ?_
    refine j_iload_n 3 (pc' := 36) hC dX6_forged_35 rfl rfl ?_
    obtain ⟨r3, hc4, h⟩ := jb1_s h
    refine j_callVi [.int x1, .int x3] (pc' := 39) hC dX6_forged_36 rfl (t_X6_leftFor _ _ hc4) gm0 vcl6 cv_X6_276 ⟨⟨Nat.le_of_ble_eq_true rfl, Nat.le_of_ble_eq_true rfl⟩, rfl, Nat.le_of_ble_eq_true rfl⟩ rfl rfl ?_
    refine j_iconst (v := 1) (pc' := 40) hC dX6_forged_39 rfl rfl ?_
    refine j_icmp_ge (tgt := 45) (pc' := 43) hC dX6_forged_40 (by decide) rfl (fun c5 => ?_) (fun c5 => ?_)
    · have h := jit_t c5 h
      obtain ⟨v6, ev6, h⟩ := jlet_s h
      refine j_iinc' 3 (c := 1) (pc' := 48) hC dX6_forged_45 rfl rfl rfl ev6 (by decide) rfl ?_
      refine j_goto (tgt := 23) (pc' := 0) hC dX6_forged_48 (by decide) ?_
      refine j_sub [1, 2, 3, 0] rfl ?_
      exact ih _ _ _ res h hQ hK
    · have h := jit_f c5 h
      refine j_iload_n 3 (pc' := 44) hC dX6_forged_43 rfl rfl ?_
      have q8 := jinj1 h
      subst q8
      rw [hQ _ _ rfl]
      exact j_iret hC dX6_forged_44
theorem lp_X6_forged_L23 {Γ : jG} (hC : jOK Γ cX6_forged 4 RX6 (some .int) { frames := 3, cells := 0, slots := 0, locals := 65 }) {Q : State → Prop} (x2 : Int32) : ∀ (n : Nat) (x1 : Int32) (x3 : Int32) (M : jM) (res : (Int32 × jM) ⊕ (Int32)), f_X6_forged_L23 n x1 x3 M = some res → (∀ (r : Int32) (M' : jM), res = .inl (r, M') → Q = jQi Γ RM GM r M') → (∀ (e3 : Int32), res = .inr e3 → jJ Γ GM RM 51 [(0, .ref (jad Γ 0)), (1, .int x1), (2, .int x2), (3, .int e3)] [] M Q) → jJ Γ GM RM 23 [(0, .ref (jad Γ 0)), (1, .int x1), (2, .int x2), (3, .int x3)] [] M Q := by
  intro n
  induction n with
  | zero =>
    intro x1 x3 M res h hQ hK
    exact jno h
  | succ n ih =>
    intro x1 x3 M res h hQ hK
    exact lp_X6_forged_L23_b hC x2 (f_X6_forged_L23 n) ih x1 x3 M res h hQ hK
theorem t_X6_forged (l : Launch) (E : jE) {a1 : Int32} {M : jM} {r : Int32} {M' : jM} (h : f_X6_forged a1 M = some (r, M')) : jCi l yX6_forged cX6_forged 4 (some .int) 3 65 E RM GM (fun a _ => [.ref (a 0), .int a1]) M r M' := by
  refine jCi_of (own := RX6) (by decide) rfl (fun _ _ => Nat.le_of_ble_eq_true rfl) ?_
  intro Γ hC
  show jJ Γ GM RM 0 [(0, .ref (jad Γ 0)), (1, .int a1)] [] M (jQi Γ RM GM r M')
  unfold f_X6_forged at h
  refine j_iload_n 1 (pc' := 1) hC dX6_forged_0 rfl rfl ?_
  obtain ⟨r1, hc2, h⟩ := jb1_s h
  refine j_callSi [.int a1] (pc' := 4) hC dX6_forged_1 rfl (t_X6_isRow _ _ hc2) cs_X6_99 ⟨⟨Nat.le_of_ble_eq_true rfl, Nat.le_of_ble_eq_true rfl⟩, rfl, Nat.le_of_ble_eq_true rfl⟩ rfl rfl ?_
  refine j_if_ne (tgt := 9) (pc' := 7) hC dX6_forged_4 (by decide) rfl (fun c3 => ?_) (fun c3 => ?_)
  · have h := jit_f c3 h
    refine j_aload_n 0 (pc' := 10) hC dX6_forged_9 rfl rfl ?_
    refine j_iload_n 1 (pc' := 11) hC dX6_forged_10 rfl rfl ?_
    obtain ⟨r4, M5, hc6, h⟩ := jb2_s h
    refine j_callVi [.int a1] (pc' := 14) hC dX6_forged_11 rfl (t_X6_lacksDiary _ _ hc6) gm0 vcl6 cv_X6_273 ⟨⟨Nat.le_of_ble_eq_true rfl, Nat.le_of_ble_eq_true rfl⟩, rfl, Nat.le_of_ble_eq_true rfl⟩ rfl rfl ?_
    refine j_istore_n (pc' := 15) hC dX6_forged_14 rfl rfl (by decide) rfl ?_
    refine j_iload_n 0 (pc' := 16) hC dX6_forged_15 rfl rfl ?_
    refine j_if_ge (tgt := 21) (pc' := 19) hC dX6_forged_16 (by decide) rfl (fun c7 => ?_) (fun c7 => ?_)
    · have h := jit_t c7 h
      refine j_iconst (v := 0) (pc' := 22) hC dX6_forged_21 rfl rfl ?_
      refine j_istore_n (pc' := 23) hC dX6_forged_22 rfl rfl (by decide) rfl ?_
      refine j_sub [2, 3, 1, 0] rfl ?_
      rcases jr1_s h with hm9 | ⟨v8, hm9, h⟩
      · exact lp_X6_forged_L23 hC r4 jfu a1 (0 : Int32) M5 _ hm9 (fun _ _ e => by cases e; rfl) (fun _ e => by cases e)
      · refine lp_X6_forged_L23 hC r4 jfu a1 (0 : Int32) M5 _ hm9 (fun _ _ e => by cases e) (fun _ e => ?_)
        cases e
        refine j_bipush (v := -9) (pc' := 53) hC dX6_forged_51 rfl rfl ?_
        obtain ⟨q0, q1⟩ := jinj2 h
        subst q0
        subst q1
        exact j_iret hC dX6_forged_53
    · have h := jit_f c7 h
      refine j_iload_n 0 (pc' := 20) hC dX6_forged_19 rfl rfl ?_
      obtain ⟨q0, q1⟩ := jinj2 h
      subst q0
      subst q1
      exact j_iret hC dX6_forged_20
  · have h := jit_t c3 h
    refine j_iconst (v := -1) (pc' := 8) hC dX6_forged_7 rfl rfl ?_
    obtain ⟨q0, q1⟩ := jinj2 h
    subst q0
    subst q1
    exact j_iret hC dX6_forged_8
theorem lp_X6_stolen_L31_b {Γ : jG} (hC : jOK Γ cX6_stolen 5 RX6 (some .int) { frames := 1, cells := 0, slots := 0, locals := 25 }) {Q : State → Prop} (x1 : Int32) (rec : Int32 → Int32 → Int32 → jM → Option (Int32 × Int32)) (ih : ∀ (x2 : Int32) (x3 : Int32) (x4 : Int32) (M : jM) (e3 : Int32) (e4 : Int32), rec x2 x3 x4 M = some (e3, e4) → jJ Γ GM RM 67 [(0, .ref (jad Γ 0)), (1, .int x1), (2, .int x2), (3, .int e3), (4, .int e4)] [] M Q → jJ Γ GM RM 31 [(0, .ref (jad Γ 0)), (1, .int x1), (2, .int x2), (3, .int x3), (4, .int x4)] [] M Q) (x2 : Int32) (x3 : Int32) (x4 : Int32) (M : jM) (e3 : Int32) (e4 : Int32) (h : f_X6_stolen_L31_b rec x2 x3 x4 M = some (e3, e4)) (hK : jJ Γ GM RM 67 [(0, .ref (jad Γ 0)), (1, .int x1), (2, .int x2), (3, .int e3), (4, .int e4)] [] M Q) : jJ Γ GM RM 31 [(0, .ref (jad Γ 0)), (1, .int x1), (2, .int x2), (3, .int x3), (4, .int x4)] [] M Q := by
  unfold f_X6_stolen_L31_b at h
  refine j_iload 4 (pc' := 33) hC dX6_stolen_31 rfl rfl ?_
  refine j_aload_n 0 (pc' := 34) hC dX6_stolen_33 rfl rfl ?_
  refine j_geti' (pc' := 37) hC dX6_stolen_34 rfl fi_X6_159 gm0 ?_
  refine j_icmp_ge (tgt := 67) (pc' := 40) hC dX6_stolen_37 (by decide) rfl (fun c1 => ?_) (fun c1 => ?_)
  · have h := jit_t c1 h
    obtain ⟨q0, q1⟩ := jinj2 h
    subst q0
    subst q1
    refine j_sub [0, 1, 2, 3, 4] rfl ?_
    exact hK
  · have h := jit_f c1 h
    refine j_iload_n 3 (pc' := 41) hC dX6_stolen_40 rfl rfl ?_
    refine j_aload_n 0 (pc' := 42) hC dX6_stolen_41 rfl rfl ?_
    refine j_iload 4 (pc' := 44) hC dX6_stolen_42 rfl rfl ?_
    obtain ⟨r2, hc3, h⟩ := jb1_s h
    refine j_callVi [.int x4] (pc' := 47) hC dX6_stolen_44 rfl (t_X6_comes _ _ hc3) gm0 vcl6 cv_X6_180 ⟨⟨Nat.le_of_ble_eq_true rfl, Nat.le_of_ble_eq_true rfl⟩, rfl, Nat.le_of_ble_eq_true rfl⟩ rfl rfl ?_
    refine j_iload_n 2 (pc' := 48) hC dX6_stolen_47 rfl rfl ?_
    obtain ⟨v5, hm7, h⟩ := jlet_s h
    have K6 : jJ Γ GM RM 59 [(0, .ref (jad Γ 0)), (1, .int x1), (2, .int x2), (3, .int x3), (4, .int x4)] [.int v5, .int x3] M Q := by
      refine j_ior (pc' := 60) hC dX6_stolen_59 rfl ?_
      obtain ⟨v9, ev9, h⟩ := jlet_s h
      refine j_istore_n (pc' := 61) hC dX6_stolen_60 rfl ev9 (by decide) rfl ?_
      obtain ⟨v10, ev10, h⟩ := jlet_s h
      refine j_iinc' 4 (c := 1) (pc' := 64) hC dX6_stolen_61 rfl rfl rfl ev10 (by decide) rfl ?_
      refine j_goto (tgt := 31) (pc' := 0) hC dX6_stolen_64 (by decide) ?_
      refine j_sub [2, 3, 4, 1, 0] rfl ?_
      exact ih _ _ _ _ _ _ h hK
    refine j_icmp_gt (tgt := 58) (pc' := 51) hC dX6_stolen_48 (by decide) rfl (fun c8 => ?_) (fun c8 => ?_)
    · have hm7 := jit_t c8 hm7
      refine j_iconst (v := 0) (pc' := 59) hC dX6_stolen_58 rfl rfl ?_
      subst hm7
      exact j_sub [0, 1, 2, 3, 4] rfl K6
    · have hm7 := jit_f c8 hm7
      refine j_iconst (v := 1) (pc' := 52) hC dX6_stolen_51 rfl rfl ?_
      refine j_iload 4 (pc' := 54) hC dX6_stolen_52 rfl rfl ?_
      refine j_ishl (pc' := 55) hC dX6_stolen_54 rfl ?_
      refine j_goto (tgt := 59) (pc' := 0) hC dX6_stolen_55 (by decide) ?_
      subst hm7
      exact j_sub [0, 1, 2, 3, 4] rfl K6
theorem lp_X6_stolen_L31 {Γ : jG} (hC : jOK Γ cX6_stolen 5 RX6 (some .int) { frames := 1, cells := 0, slots := 0, locals := 25 }) {Q : State → Prop} (x1 : Int32) : ∀ (n : Nat) (x2 : Int32) (x3 : Int32) (x4 : Int32) (M : jM) (e3 : Int32) (e4 : Int32), f_X6_stolen_L31 n x2 x3 x4 M = some (e3, e4) → jJ Γ GM RM 67 [(0, .ref (jad Γ 0)), (1, .int x1), (2, .int x2), (3, .int e3), (4, .int e4)] [] M Q → jJ Γ GM RM 31 [(0, .ref (jad Γ 0)), (1, .int x1), (2, .int x2), (3, .int x3), (4, .int x4)] [] M Q := by
  intro n
  induction n with
  | zero =>
    intro x2 x3 x4 M e3 e4 h hK
    exact jno h
  | succ n ih =>
    intro x2 x3 x4 M e3 e4 h hK
    exact lp_X6_stolen_L31_b hC x1 (f_X6_stolen_L31 n) ih x2 x3 x4 M e3 e4 h hK
theorem t_X6_stolen (l : Launch) (E : jE) {a1 : Int32} {a2 : Int32} {M : jM} {r : Int32} (h : f_X6_stolen a1 a2 M = some r) : jCi l yX6_stolen cX6_stolen 5 (some .int) 1 25 E RM GM (fun a _ => [.ref (a 0), .int a1, .int a2]) M r M := by
  refine jCi_of (own := RX6) (by decide) rfl (fun _ _ => Nat.le_of_ble_eq_true rfl) ?_
  intro Γ hC
  show jJ Γ GM RM 0 [(0, .ref (jad Γ 0)), (1, .int a1), (2, .int a2)] [] M (jQi Γ RM GM r M)
  unfold f_X6_stolen at h
  refine j_iload_n 1 (pc' := 1) hC dX6_stolen_0 rfl rfl ?_
  refine j_i2l (pc' := 2) hC dX6_stolen_1 rfl ?_
  refine j_lconst (v := 0) (pc' := 3) hC dX6_stolen_2 rfl rfl ?_
  refine j_ldc2 (pc' := 6) hC dX6_stolen_3 rfl ck_X6_279 ?_
  obtain ⟨r1, hc2, h⟩ := jb1_s h
  refine j_callSi [.long a1.toInt64, .long (0 : Int64), .long (7 : Int64)] (pc' := 9) hC dX6_stolen_6 rfl (t_X6_in _ _ hc2) cs_X6_93 ⟨⟨Nat.le_of_ble_eq_true rfl, Nat.le_of_ble_eq_true rfl⟩, rfl, Nat.le_of_ble_eq_true rfl⟩ rfl rfl ?_
  refine j_if_eq (tgt := 24) (pc' := 12) hC dX6_stolen_9 (by decide) rfl (fun c3 => ?_) (fun c3 => ?_)
  · have h := jit_t c3 h
    refine j_iconst (v := -1) (pc' := 25) hC dX6_stolen_24 rfl rfl ?_
    have q8 := jinj1 h
    subst q8
    exact j_iret hC dX6_stolen_25
  · have h := jit_f c3 h
    refine j_iload_n 2 (pc' := 13) hC dX6_stolen_12 rfl rfl ?_
    refine j_i2l (pc' := 14) hC dX6_stolen_13 rfl ?_
    refine j_lconst (v := 0) (pc' := 15) hC dX6_stolen_14 rfl rfl ?_
    refine j_ldc2 (pc' := 18) hC dX6_stolen_15 rfl ck_X6_281 ?_
    obtain ⟨r4, hc5, h⟩ := jb1_s h
    refine j_callSi [.long a2.toInt64, .long (0 : Int64), .long (20 : Int64)] (pc' := 21) hC dX6_stolen_18 rfl (t_X6_in _ _ hc5) cs_X6_93 ⟨⟨Nat.le_of_ble_eq_true rfl, Nat.le_of_ble_eq_true rfl⟩, rfl, Nat.le_of_ble_eq_true rfl⟩ rfl rfl ?_
    refine j_if_ne (tgt := 26) (pc' := 24) hC dX6_stolen_21 (by decide) rfl (fun c6 => ?_) (fun c6 => ?_)
    · have h := jit_f c6 h
      refine j_iconst (v := 0) (pc' := 27) hC dX6_stolen_26 rfl rfl ?_
      refine j_istore_n (pc' := 28) hC dX6_stolen_27 rfl rfl (by decide) rfl ?_
      refine j_iconst (v := 0) (pc' := 29) hC dX6_stolen_28 rfl rfl ?_
      refine j_istore (pc' := 31) hC dX6_stolen_29 rfl rfl (by decide) rfl ?_
      refine j_sub [2, 3, 4, 1, 0] rfl ?_
      obtain ⟨v7, v8, hm9, h⟩ := jb2_s h
      refine lp_X6_stolen_L31 hC a1 jfu a2 (0 : Int32) (0 : Int32) M v7 v8 hm9 ?_
      refine j_iload_n 3 (pc' := 68) hC dX6_stolen_67 rfl rfl ?_
      obtain ⟨r10, hc11, h⟩ := jb1_s h
      refine j_callSi [.int v7] (pc' := 71) hC dX6_stolen_68 rfl (t_X6_ones _ _ hc11) cs_X6_200 ⟨⟨Nat.le_of_ble_eq_true rfl, Nat.le_of_ble_eq_true rfl⟩, rfl, Nat.le_of_ble_eq_true rfl⟩ rfl rfl ?_
      refine j_iload_n 1 (pc' := 72) hC dX6_stolen_71 rfl rfl ?_
      refine j_iconst (v := 1) (pc' := 73) hC dX6_stolen_72 rfl rfl ?_
      refine j_iadd (pc' := 74) hC dX6_stolen_73 rfl ?_
      refine j_icmp_ne (tgt := 81) (pc' := 77) hC dX6_stolen_74 (by decide) rfl (fun c12 => ?_) (fun c12 => ?_)
      · have h := jit_f c12 h
        refine j_iconst (v := 0) (pc' := 82) hC dX6_stolen_81 rfl rfl ?_
        have q8 := jinj1 h
        subst q8
        exact j_iret hC dX6_stolen_82
      · have h := jit_t c12 h
        refine j_iload_n 3 (pc' := 78) hC dX6_stolen_77 rfl rfl ?_
        refine j_goto (tgt := 82) (pc' := 0) hC dX6_stolen_78 (by decide) ?_
        have q8 := jinj1 h
        subst q8
        exact j_iret hC dX6_stolen_82
    · have h := jit_t c6 h
      refine j_iconst (v := -1) (pc' := 25) hC dX6_stolen_24 rfl rfl ?_
      have q8 := jinj1 h
      subst q8
      exact j_iret hC dX6_stolen_25
theorem lp_X6_odds_L36_b {Γ : jG} (hC : jOK Γ cX6_odds 5 RX6 (some .int) { frames := 6, cells := 0, slots := 0, locals := 140 }) {Q : State → Prop} (x1 : Int32) (rec : Int32 → Int32 → Int32 → jM → Option (Int32 × Int32)) (ih : ∀ (x2 : Int32) (x3 : Int32) (x4 : Int32) (M : jM) (e3 : Int32) (e4 : Int32), rec x2 x3 x4 M = some (e3, e4) → jJ Γ GM RM 76 [(0, .ref (jad Γ 0)), (1, .int x1), (2, .int x2), (3, .int e3), (4, .int e4)] [] M Q → jJ Γ GM RM 36 [(0, .ref (jad Γ 0)), (1, .int x1), (2, .int x2), (3, .int x3), (4, .int x4)] [] M Q) (x2 : Int32) (x3 : Int32) (x4 : Int32) (M : jM) (e3 : Int32) (e4 : Int32) (h : f_X6_odds_L36_b rec x2 x3 x4 M = some (e3, e4)) (hK : jJ Γ GM RM 76 [(0, .ref (jad Γ 0)), (1, .int x1), (2, .int x2), (3, .int e3), (4, .int e4)] [] M Q) : jJ Γ GM RM 36 [(0, .ref (jad Γ 0)), (1, .int x1), (2, .int x2), (3, .int x3), (4, .int x4)] [] M Q := by
  unfold f_X6_odds_L36_b at h
  refine j_iload 4 (pc' := 38) hC dX6_odds_36 rfl rfl ?_
  refine j_sipush (v := 128) (pc' := 41) hC dX6_odds_38 rfl rfl ?_
  refine j_icmp_ge (tgt := 76) (pc' := 44) hC dX6_odds_41 (by decide) rfl (fun c1 => ?_) (fun c1 => ?_)
  · have h := jit_t c1 h
    obtain ⟨q0, q1⟩ := jinj2 h
    subst q0
    subst q1
    refine j_sub [0, 1, 2, 3, 4] rfl ?_
    exact hK
  · have h := jit_f c1 h
    refine j_iload_n 3 (pc' := 45) hC dX6_odds_44 rfl rfl ?_
    refine j_iload 4 (pc' := 47) hC dX6_odds_45 rfl rfl ?_
    refine j_iload_n 2 (pc' := 48) hC dX6_odds_47 rfl rfl ?_
    refine j_iconst (v := -1) (pc' := 49) hC dX6_odds_48 rfl rfl ?_
    refine j_ixor (pc' := 50) hC dX6_odds_49 rfl ?_
    refine j_iand (pc' := 51) hC dX6_odds_50 rfl ?_
    obtain ⟨v6, hm8, h⟩ := jb1_s h
    have K7 : jJ Γ GM RM 68 [(0, .ref (jad Γ 0)), (1, .int x1), (2, .int x2), (3, .int x3), (4, .int x4)] [.int v6, .int x3] M Q := by
      refine j_iadd (pc' := 69) hC dX6_odds_68 rfl ?_
      obtain ⟨v13, ev13, h⟩ := jlet_s h
      refine j_istore_n (pc' := 70) hC dX6_odds_69 rfl ev13 (by decide) rfl ?_
      obtain ⟨v14, ev14, h⟩ := jlet_s h
      refine j_iinc' 4 (c := 1) (pc' := 73) hC dX6_odds_70 rfl rfl rfl ev14 (by decide) rfl ?_
      refine j_goto (tgt := 36) (pc' := 0) hC dX6_odds_73 (by decide) ?_
      refine j_sub [2, 3, 4, 1, 0] rfl ?_
      exact ih _ _ _ _ _ _ h hK
    refine j_if_ne (tgt := 67) (pc' := 54) hC dX6_odds_51 (by decide) rfl (fun c9 => ?_) (fun c9 => ?_)
    · have hm8 := jit_f c9 hm8
      refine j_iconst (v := 0) (pc' := 68) hC dX6_odds_67 rfl rfl ?_
      have q8 := jinj1 hm8
      subst q8
      exact j_sub [0, 1, 2, 3, 4] rfl K7
    · have hm8 := jit_t c9 hm8
      refine j_aload_n 0 (pc' := 55) hC dX6_odds_54 rfl rfl ?_
      refine j_iload 4 (pc' := 57) hC dX6_odds_55 rfl rfl ?_
      obtain ⟨r10, hc11, hm8⟩ := jb1_s hm8
      refine j_callVi [.int x4] (pc' := 60) hC dX6_odds_57 rfl (t_X6_mostOf _ _ hc11) gm0 vcl6 cv_X6_259 ⟨⟨Nat.le_of_ble_eq_true rfl, Nat.le_of_ble_eq_true rfl⟩, rfl, Nat.le_of_ble_eq_true rfl⟩ rfl rfl ?_
      refine j_if_lt (tgt := 67) (pc' := 63) hC dX6_odds_60 (by decide) rfl (fun c12 => ?_) (fun c12 => ?_)
      · have hm8 := jit_t c12 hm8
        refine j_iconst (v := 0) (pc' := 68) hC dX6_odds_67 rfl rfl ?_
        have q8 := jinj1 hm8
        subst q8
        exact j_sub [0, 1, 2, 3, 4] rfl K7
      · have hm8 := jit_f c12 hm8
        refine j_iconst (v := 1) (pc' := 64) hC dX6_odds_63 rfl rfl ?_
        refine j_goto (tgt := 68) (pc' := 0) hC dX6_odds_64 (by decide) ?_
        have q8 := jinj1 hm8
        subst q8
        exact j_sub [0, 1, 2, 3, 4] rfl K7
theorem lp_X6_odds_L36 {Γ : jG} (hC : jOK Γ cX6_odds 5 RX6 (some .int) { frames := 6, cells := 0, slots := 0, locals := 140 }) {Q : State → Prop} (x1 : Int32) : ∀ (n : Nat) (x2 : Int32) (x3 : Int32) (x4 : Int32) (M : jM) (e3 : Int32) (e4 : Int32), f_X6_odds_L36 n x2 x3 x4 M = some (e3, e4) → jJ Γ GM RM 76 [(0, .ref (jad Γ 0)), (1, .int x1), (2, .int x2), (3, .int e3), (4, .int e4)] [] M Q → jJ Γ GM RM 36 [(0, .ref (jad Γ 0)), (1, .int x1), (2, .int x2), (3, .int x3), (4, .int x4)] [] M Q := by
  intro n
  induction n with
  | zero =>
    intro x2 x3 x4 M e3 e4 h hK
    exact jno h
  | succ n ih =>
    intro x2 x3 x4 M e3 e4 h hK
    exact lp_X6_odds_L36_b hC x1 (f_X6_odds_L36 n) ih x2 x3 x4 M e3 e4 h hK
theorem lp_X6_odds_L84_b {Γ : jG} (hC : jOK Γ cX6_odds 5 RX6 (some .int) { frames := 6, cells := 0, slots := 0, locals := 140 }) {Q : State → Prop} (x1 : Int32) (x2 : Int32) (rec : Int32 → Int32 → jM → Option (Int32 × Int32)) (ih : ∀ (x3 : Int32) (x4 : Int32) (M : jM) (e3 : Int32) (e4 : Int32), rec x3 x4 M = some (e3, e4) → jJ Γ GM RM 109 [(0, .ref (jad Γ 0)), (1, .int x1), (2, .int x2), (3, .int e3), (4, .int e4)] [] M Q → jJ Γ GM RM 84 [(0, .ref (jad Γ 0)), (1, .int x1), (2, .int x2), (3, .int x3), (4, .int x4)] [] M Q) (x3 : Int32) (x4 : Int32) (M : jM) (e3 : Int32) (e4 : Int32) (h : f_X6_odds_L84_b rec x3 x4 M = some (e3, e4)) (hK : jJ Γ GM RM 109 [(0, .ref (jad Γ 0)), (1, .int x1), (2, .int x2), (3, .int e3), (4, .int e4)] [] M Q) : jJ Γ GM RM 84 [(0, .ref (jad Γ 0)), (1, .int x1), (2, .int x2), (3, .int x3), (4, .int x4)] [] M Q := by
  unfold f_X6_odds_L84_b at h
  refine j_iload_n 3 (pc' := 85) hC dX6_odds_84 rfl rfl ?_
  refine j_iconst (v := 2) (pc' := 86) hC dX6_odds_85 rfl rfl ?_
  refine j_irem (pc' := 87) hC dX6_odds_86 rfl (by decide) ?_
  refine j_if_ne (tgt := 109) (pc' := 90) hC dX6_odds_87 (by decide) rfl (fun c1 => ?_) (fun c1 => ?_)
  · have h := jit_f c1 h
    obtain ⟨q0, q1⟩ := jinj2 h
    subst q0
    subst q1
    refine j_sub [0, 1, 2, 3, 4] rfl ?_
    exact hK
  · have h := jit_t c1 h
    refine j_iload 4 (pc' := 92) hC dX6_odds_90 rfl rfl ?_
    refine j_iconst (v := 1) (pc' := 93) hC dX6_odds_92 rfl rfl ?_
    refine j_icmp_le (tgt := 109) (pc' := 96) hC dX6_odds_93 (by decide) rfl (fun c2 => ?_) (fun c2 => ?_)
    · have h := jit_t c2 h
      obtain ⟨q0, q1⟩ := jinj2 h
      subst q0
      subst q1
      refine j_sub [0, 1, 2, 3, 4] rfl ?_
      exact hK
    · have h := jit_f c2 h
      refine j_iload_n 3 (pc' := 97) hC dX6_odds_96 rfl rfl ?_
      refine j_iconst (v := 2) (pc' := 98) hC dX6_odds_97 rfl rfl ?_
      refine j_idiv (pc' := 99) hC dX6_odds_98 rfl (by decide) ?_
      obtain ⟨v3, ev3, h⟩ := jlet_s h
      refine j_istore_n (pc' := 100) hC dX6_odds_99 rfl ev3 (by decide) rfl ?_
      refine j_iload 4 (pc' := 102) hC dX6_odds_100 rfl rfl ?_
      refine j_iconst (v := 2) (pc' := 103) hC dX6_odds_102 rfl rfl ?_
      refine j_idiv (pc' := 104) hC dX6_odds_103 rfl (by decide) ?_
      obtain ⟨v4, ev4, h⟩ := jlet_s h
      refine j_istore (pc' := 106) hC dX6_odds_104 rfl ev4 (by decide) rfl ?_
      refine j_goto (tgt := 84) (pc' := 0) hC dX6_odds_106 (by decide) ?_
      refine j_sub [2, 3, 4, 1, 0] rfl ?_
      exact ih _ _ _ _ _ h hK
theorem lp_X6_odds_L84 {Γ : jG} (hC : jOK Γ cX6_odds 5 RX6 (some .int) { frames := 6, cells := 0, slots := 0, locals := 140 }) {Q : State → Prop} (x1 : Int32) (x2 : Int32) : ∀ (n : Nat) (x3 : Int32) (x4 : Int32) (M : jM) (e3 : Int32) (e4 : Int32), f_X6_odds_L84 n x3 x4 M = some (e3, e4) → jJ Γ GM RM 109 [(0, .ref (jad Γ 0)), (1, .int x1), (2, .int x2), (3, .int e3), (4, .int e4)] [] M Q → jJ Γ GM RM 84 [(0, .ref (jad Γ 0)), (1, .int x1), (2, .int x2), (3, .int x3), (4, .int x4)] [] M Q := by
  intro n
  induction n with
  | zero =>
    intro x3 x4 M e3 e4 h hK
    exact jno h
  | succ n ih =>
    intro x3 x4 M e3 e4 h hK
    exact lp_X6_odds_L84_b hC x1 x2 (f_X6_odds_L84 n) ih x3 x4 M e3 e4 h hK
theorem t_X6_odds (l : Launch) (E : jE) {a1 : Int32} {M : jM} {r : Int32} {M' : jM} (h : f_X6_odds a1 M = some (r, M')) : jCi l yX6_odds cX6_odds 5 (some .int) 6 140 E RM GM (fun a _ => [.ref (a 0), .int a1]) M r M' := by
  refine jCi_of (own := RX6) (by decide) rfl (fun _ _ => Nat.le_of_ble_eq_true rfl) ?_
  intro Γ hC
  show jJ Γ GM RM 0 [(0, .ref (jad Γ 0)), (1, .int a1)] [] M (jQi Γ RM GM r M')
  unfold f_X6_odds at h
  refine j_aload_n 0 (pc' := 1) hC dX6_odds_0 rfl rfl ?_
  refine j_iload_n 1 (pc' := 2) hC dX6_odds_1 rfl rfl ?_
  obtain ⟨r1, hc2, h⟩ := jb1_s h
  refine j_callVi [.int a1] (pc' := 5) hC dX6_odds_2 rfl (t_X6_isDeed _ _ hc2) gm0 vcl6 cv_X6_168 ⟨⟨Nat.le_of_ble_eq_true rfl, Nat.le_of_ble_eq_true rfl⟩, rfl, Nat.le_of_ble_eq_true rfl⟩ rfl rfl ?_
  refine j_if_ne (tgt := 10) (pc' := 8) hC dX6_odds_5 (by decide) rfl (fun c3 => ?_) (fun c3 => ?_)
  · have h := jit_f c3 h
    refine j_aload_n 0 (pc' := 11) hC dX6_odds_10 rfl rfl ?_
    refine j_aload_n 0 (pc' := 12) hC dX6_odds_11 rfl rfl ?_
    refine j_getr' (o2 := 12) (pc' := 15) hC dX6_odds_12 rfl fi_X6_43 gm0 rfl ?_
    refine j_iconst (v := 0) (pc' := 16) hC dX6_odds_15 rfl rfl ?_
    refine j_iald (pc' := 17) hC dX6_odds_16 rfl gm12 (by decide) ?_
    obtain ⟨r4, hc5, h⟩ := jb1_s h
    refine j_callVi [.int (gi M 12 (0 : Int32).toNatClampNeg)] (pc' := 20) hC dX6_odds_17 rfl (t_X6_shelfOn _ _ hc5) gm0 vcl6 cv_X6_213 ⟨⟨Nat.le_of_ble_eq_true rfl, Nat.le_of_ble_eq_true rfl⟩, rfl, Nat.le_of_ble_eq_true rfl⟩ rfl rfl ?_
    refine j_istore_n (pc' := 21) hC dX6_odds_20 rfl rfl (by decide) rfl ?_
    refine j_aload_n 1 (pc' := 22) hC dX6_odds_21 rfl rfl ?_
    refine j_iload_n 0 (pc' := 23) hC dX6_odds_22 rfl rfl ?_
    obtain ⟨M6, hc7, h⟩ := jb1_s h
    refine j_callVv [.int r4] (pc' := 26) hC dX6_odds_23 rfl (t_X6_reach _ _ hc7) gm0 vcl6 cv_X6_253 ⟨⟨Nat.le_of_ble_eq_true rfl, Nat.le_of_ble_eq_true rfl⟩, rfl, Nat.le_of_ble_eq_true rfl⟩ rfl rfl ?_
    refine j_aload_n 1 (pc' := 27) hC dX6_odds_26 rfl rfl ?_
    refine j_iload_n 2 (pc' := 28) hC dX6_odds_27 rfl rfl ?_
    obtain ⟨M8, hc9, h⟩ := jb1_s h
    refine j_callVv [.int a1] (pc' := 31) hC dX6_odds_28 rfl (t_X6_findMosts _ _ hc9) gm0 vcl6 cv_X6_256 ⟨⟨Nat.le_of_ble_eq_true rfl, Nat.le_of_ble_eq_true rfl⟩, rfl, Nat.le_of_ble_eq_true rfl⟩ rfl rfl ?_
    refine j_iconst (v := 0) (pc' := 32) hC dX6_odds_31 rfl rfl ?_
    refine j_istore_n (pc' := 33) hC dX6_odds_32 rfl rfl (by decide) rfl ?_
    refine j_iconst (v := 0) (pc' := 34) hC dX6_odds_33 rfl rfl ?_
    refine j_istore (pc' := 36) hC dX6_odds_34 rfl rfl (by decide) rfl ?_
    refine j_sub [3, 4, 2, 1, 0] rfl ?_
    obtain ⟨v10, v11, hm12, h⟩ := jb2_s h
    refine lp_X6_odds_L36 hC a1 jfu r4 (0 : Int32) (0 : Int32) M8 v10 v11 hm12 ?_
    refine j_iconst (v := 1) (pc' := 77) hC dX6_odds_76 rfl rfl ?_
    refine j_iload_n 2 (pc' := 78) hC dX6_odds_77 rfl rfl ?_
    obtain ⟨r13, hc14, h⟩ := jb1_s h
    refine j_callSi [.int r4] (pc' := 81) hC dX6_odds_78 rfl (t_X6_ones _ _ hc14) cs_X6_200 ⟨⟨Nat.le_of_ble_eq_true rfl, Nat.le_of_ble_eq_true rfl⟩, rfl, Nat.le_of_ble_eq_true rfl⟩ rfl rfl ?_
    refine j_ishl (pc' := 82) hC dX6_odds_81 rfl ?_
    obtain ⟨v15, ev15, h⟩ := jlet_s h
    refine j_istore (pc' := 84) hC dX6_odds_82 rfl ev15 (by decide) rfl ?_
    refine j_sub [1, 2, 3, 4, 0] rfl ?_
    obtain ⟨v16, v17, hm18, h⟩ := jb2_s h
    refine lp_X6_odds_L84 hC a1 r4 jfu v10 v15 M8 v16 v17 hm18 ?_
    refine j_aload_n 0 (pc' := 110) hC dX6_odds_109 rfl rfl ?_
    refine j_iload_n 3 (pc' := 111) hC dX6_odds_110 rfl rfl ?_
    refine j_i2l (pc' := 112) hC dX6_odds_111 rfl ?_
    obtain ⟨M19, eM19, h⟩ := jlet_s h
    refine j_putl' (pc' := 115) hC dX6_odds_112 rfl fp_X6_283 gm0 eM19 ?_
    refine j_aload_n 0 (pc' := 116) hC dX6_odds_115 rfl rfl ?_
    refine j_iload 4 (pc' := 118) hC dX6_odds_116 rfl rfl ?_
    refine j_i2l (pc' := 119) hC dX6_odds_118 rfl ?_
    obtain ⟨M20, eM20, h⟩ := jlet_s h
    refine j_putl' (pc' := 122) hC dX6_odds_119 rfl fp_X6_49 gm0 eM20 ?_
    refine j_iconst (v := 1) (pc' := 123) hC dX6_odds_122 rfl rfl ?_
    obtain ⟨q0, q1⟩ := jinj2 h
    subst q0
    subst q1
    exact j_iret hC dX6_odds_123
  · have h := jit_t c3 h
    refine j_iconst (v := -1) (pc' := 9) hC dX6_odds_8 rfl rfl ?_
    obtain ⟨q0, q1⟩ := jinj2 h
    subst q0
    subst q1
    exact j_iret hC dX6_odds_9
theorem lp_X6_oneOf_L4_b {Γ : jG} (hC : jOK Γ cX6_oneOf 4 RX6 (some .int) { frames := 1, cells := 0, slots := 0, locals := 21 }) {Q : State → Prop} (x1 : Int32) (rec : Int32 → Int32 → Int32 → jM → Option (Int32 × Int32)) (ih : ∀ (x0 : Int32) (x2 : Int32) (x3 : Int32) (M : jM) (e2 : Int32) (e3 : Int32), rec x0 x2 x3 M = some (e2, e3) → jJ Γ GM RM 38 [(0, .int x0), (1, .int x1), (2, .int e2), (3, .int e3)] [] M Q → jJ Γ GM RM 4 [(0, .int x0), (1, .int x1), (2, .int x2), (3, .int x3)] [] M Q) (x0 : Int32) (x2 : Int32) (x3 : Int32) (M : jM) (e2 : Int32) (e3 : Int32) (h : f_X6_oneOf_L4_b rec x0 x2 x3 M = some (e2, e3)) (hK : jJ Γ GM RM 38 [(0, .int x0), (1, .int x1), (2, .int e2), (3, .int e3)] [] M Q) : jJ Γ GM RM 4 [(0, .int x0), (1, .int x1), (2, .int x2), (3, .int x3)] [] M Q := by
  unfold f_X6_oneOf_L4_b at h
  refine j_iload_n 0 (pc' := 5) hC dX6_oneOf_4 rfl rfl ?_
  refine j_iload_n 3 (pc' := 6) hC dX6_oneOf_5 rfl rfl ?_
  obtain ⟨r1, hc2, h⟩ := jb1_s h
  refine j_callSi [.int x0, .int x3] (pc' := 9) hC dX6_oneOf_6 rfl (t_X6_has _ _ hc2) cs_X6_136 ⟨⟨Nat.le_of_ble_eq_true rfl, Nat.le_of_ble_eq_true rfl⟩, rfl, Nat.le_of_ble_eq_true rfl⟩ rfl rfl ?_
  refine j_if_eq (tgt := 16) (pc' := 12) hC dX6_oneOf_9 (by decide) rfl (fun c16 => ?_) (fun c16 => ?_)
  · have h := jit_t c16 h
    refine j_iload_n 2 (pc' := 17) hC dX6_oneOf_16 rfl rfl ?_
    refine j_iload_n 0 (pc' := 18) hC dX6_oneOf_17 rfl rfl ?_
    refine j_iload_n 3 (pc' := 19) hC dX6_oneOf_18 rfl rfl ?_
    obtain ⟨r17, hc18, h⟩ := jb1_s h
    refine j_callSi [.int x0, .int x3] (pc' := 22) hC dX6_oneOf_19 rfl (t_X6_has _ _ hc18) cs_X6_136 ⟨⟨Nat.le_of_ble_eq_true rfl, Nat.le_of_ble_eq_true rfl⟩, rfl, Nat.le_of_ble_eq_true rfl⟩ rfl rfl ?_
    obtain ⟨v20, hm22, h⟩ := jlet_s h
    have K21 : jJ Γ GM RM 30 [(0, .int x0), (1, .int x1), (2, .int x2), (3, .int x3)] [.int v20, .int x2] M Q := by
      refine j_isub (pc' := 31) hC dX6_oneOf_30 rfl ?_
      obtain ⟨v24, ev24, h⟩ := jlet_s h
      refine j_istore_n (pc' := 32) hC dX6_oneOf_31 rfl ev24 (by decide) rfl ?_
      obtain ⟨v25, ev25, h⟩ := jlet_s h
      refine j_iinc' 3 (c := 1) (pc' := 35) hC dX6_oneOf_32 rfl rfl rfl ev25 (by decide) rfl ?_
      refine j_goto (tgt := 4) (pc' := 0) hC dX6_oneOf_35 (by decide) ?_
      refine j_sub [2, 3, 1, 0] rfl ?_
      exact ih _ _ _ _ _ _ h hK
    refine j_if_eq (tgt := 29) (pc' := 25) hC dX6_oneOf_22 (by decide) rfl (fun c23 => ?_) (fun c23 => ?_)
    · have hm22 := jit_t c23 hm22
      refine j_iconst (v := 0) (pc' := 30) hC dX6_oneOf_29 rfl rfl ?_
      subst hm22
      exact j_sub [0, 1, 2, 3] rfl K21
    · have hm22 := jit_f c23 hm22
      refine j_iconst (v := 1) (pc' := 26) hC dX6_oneOf_25 rfl rfl ?_
      refine j_goto (tgt := 30) (pc' := 0) hC dX6_oneOf_26 (by decide) ?_
      subst hm22
      exact j_sub [0, 1, 2, 3] rfl K21
  · have h := jit_f c16 h
    refine j_iload_n 2 (pc' := 13) hC dX6_oneOf_12 rfl rfl ?_
    refine j_if_le (tgt := 38) (pc' := 16) hC dX6_oneOf_13 (by decide) rfl (fun c26 => ?_) (fun c26 => ?_)
    · have h := jit_t c26 h
      obtain ⟨q0, q1⟩ := jinj2 h
      subst q0
      subst q1
      refine j_sub [0, 1, 2, 3] rfl ?_
      exact hK
    · have h := jit_f c26 h
      refine j_iload_n 2 (pc' := 17) hC dX6_oneOf_16 rfl rfl ?_
      refine j_iload_n 0 (pc' := 18) hC dX6_oneOf_17 rfl rfl ?_
      refine j_iload_n 3 (pc' := 19) hC dX6_oneOf_18 rfl rfl ?_
      obtain ⟨r27, hc28, h⟩ := jb1_s h
      refine j_callSi [.int x0, .int x3] (pc' := 22) hC dX6_oneOf_19 rfl (t_X6_has _ _ hc28) cs_X6_136 ⟨⟨Nat.le_of_ble_eq_true rfl, Nat.le_of_ble_eq_true rfl⟩, rfl, Nat.le_of_ble_eq_true rfl⟩ rfl rfl ?_
      obtain ⟨v30, hm32, h⟩ := jlet_s h
      have K31 : jJ Γ GM RM 30 [(0, .int x0), (1, .int x1), (2, .int x2), (3, .int x3)] [.int v30, .int x2] M Q := by
        refine j_isub (pc' := 31) hC dX6_oneOf_30 rfl ?_
        obtain ⟨v34, ev34, h⟩ := jlet_s h
        refine j_istore_n (pc' := 32) hC dX6_oneOf_31 rfl ev34 (by decide) rfl ?_
        obtain ⟨v35, ev35, h⟩ := jlet_s h
        refine j_iinc' 3 (c := 1) (pc' := 35) hC dX6_oneOf_32 rfl rfl rfl ev35 (by decide) rfl ?_
        refine j_goto (tgt := 4) (pc' := 0) hC dX6_oneOf_35 (by decide) ?_
        refine j_sub [2, 3, 1, 0] rfl ?_
        exact ih _ _ _ _ _ _ h hK
      refine j_if_eq (tgt := 29) (pc' := 25) hC dX6_oneOf_22 (by decide) rfl (fun c33 => ?_) (fun c33 => ?_)
      · have hm32 := jit_t c33 hm32
        refine j_iconst (v := 0) (pc' := 30) hC dX6_oneOf_29 rfl rfl ?_
        subst hm32
        exact j_sub [0, 1, 2, 3] rfl K31
      · have hm32 := jit_f c33 hm32
        refine j_iconst (v := 1) (pc' := 26) hC dX6_oneOf_25 rfl rfl ?_
        refine j_goto (tgt := 30) (pc' := 0) hC dX6_oneOf_26 (by decide) ?_
        subst hm32
        exact j_sub [0, 1, 2, 3] rfl K31
theorem lp_X6_oneOf_L4 {Γ : jG} (hC : jOK Γ cX6_oneOf 4 RX6 (some .int) { frames := 1, cells := 0, slots := 0, locals := 21 }) {Q : State → Prop} (x1 : Int32) : ∀ (n : Nat) (x0 : Int32) (x2 : Int32) (x3 : Int32) (M : jM) (e2 : Int32) (e3 : Int32), f_X6_oneOf_L4 n x0 x2 x3 M = some (e2, e3) → jJ Γ GM RM 38 [(0, .int x0), (1, .int x1), (2, .int e2), (3, .int e3)] [] M Q → jJ Γ GM RM 4 [(0, .int x0), (1, .int x1), (2, .int x2), (3, .int x3)] [] M Q := by
  intro n
  induction n with
  | zero =>
    intro x0 x2 x3 M e2 e3 h hK
    exact jno h
  | succ n ih =>
    intro x0 x2 x3 M e2 e3 h hK
    exact lp_X6_oneOf_L4_b hC x1 (f_X6_oneOf_L4 n) ih x0 x2 x3 M e2 e3 h hK
theorem t_X6_oneOf (l : Launch) (E : jE) {a1 : Int32} {a2 : Int32} {M : jM} {r : Int32} (h : f_X6_oneOf a1 a2 M = some r) : jCi l yX6_oneOf cX6_oneOf 4 (some .int) 1 21 E RM GM (fun _ _ => [.int a1, .int a2]) M r M := by
  refine jCi_of (own := RX6) (by decide) rfl (fun _ _ => Nat.le_of_ble_eq_true rfl) ?_
  intro Γ hC
  show jJ Γ GM RM 0 [(0, .int a1), (1, .int a2)] [] M (jQi Γ RM GM r M)
  unfold f_X6_oneOf at h
  refine j_iload_n 1 (pc' := 1) hC dX6_oneOf_0 rfl rfl ?_
  refine j_istore_n (pc' := 2) hC dX6_oneOf_1 rfl rfl (by decide) rfl ?_
  refine j_iconst (v := 0) (pc' := 3) hC dX6_oneOf_2 rfl rfl ?_
  refine j_istore_n (pc' := 4) hC dX6_oneOf_3 rfl rfl (by decide) rfl ?_
  refine j_sub [2, 3, 1, 0] rfl ?_
  obtain ⟨v1, v2, hm3, h⟩ := jb2_s h
  refine lp_X6_oneOf_L4 hC a2 jfu a1 a2 (0 : Int32) M v1 v2 hm3 ?_
  refine j_iload_n 3 (pc' := 39) hC dX6_oneOf_38 rfl rfl ?_
  have q8 := jinj1 h
  subst q8
  exact j_iret hC dX6_oneOf_39
theorem lp_X6_lots_L45_b {Γ : jG} (hC : jOK Γ cX6_lots 12 RX6 (some .int) { frames := 6, cells := 0, slots := 0, locals := 137 }) {Q : State → Prop} (x2 : Int32) (rec : Int32 → Int64 → Int32 → Int32 → jM → Option (Int64 × Int32 × Int32 × jM)) (ih : ∀ (x1 : Int32) (x3 : Int64) (x5 : Int32) (x6 : Int32) (M : jM) (e3 : Int64) (e5 : Int32) (e6 : Int32) (Me : jM), rec x1 x3 x5 x6 M = some (e3, e5, e6, Me) → jJ Γ GM RM 189 [(0, .ref (jad Γ 0)), (1, .int x1), (2, .int x2), (3, .long e3), (5, .int e5), (6, .int e6)] [] Me Q → jJ Γ GM RM 45 [(0, .ref (jad Γ 0)), (1, .int x1), (2, .int x2), (3, .long x3), (5, .int x5), (6, .int x6)] [] M Q) (x1 : Int32) (x3 : Int64) (x5 : Int32) (x6 : Int32) (M : jM) (e3 : Int64) (e5 : Int32) (e6 : Int32) (Me : jM) (h : f_X6_lots_L45_b rec x1 x3 x5 x6 M = some (e3, e5, e6, Me)) (hK : jJ Γ GM RM 189 [(0, .ref (jad Γ 0)), (1, .int x1), (2, .int x2), (3, .long e3), (5, .int e5), (6, .int e6)] [] Me Q) : jJ Γ GM RM 45 [(0, .ref (jad Γ 0)), (1, .int x1), (2, .int x2), (3, .long x3), (5, .int x5), (6, .int x6)] [] M Q := by
  unfold f_X6_lots_L45_b at h
  refine j_iload 5 (pc' := 47) hC dX6_lots_45 rfl rfl ?_
  refine j_iload_n 1 (pc' := 48) hC dX6_lots_47 rfl rfl ?_
  refine j_icmp_ge (tgt := 189) (pc' := 51) hC dX6_lots_48 (by decide) rfl (fun c1 => ?_) (fun c1 => ?_)
  · have h := jit_t c1 h
    obtain ⟨q0, q1, q2, q3⟩ := jinj4 h
    subst q0
    subst q1
    subst q2
    subst q3
    refine j_sub [0, 1, 2, 3, 4, 5] rfl ?_
    exact hK
  · have h := jit_f c1 h
    refine j_aload_n 0 (pc' := 52) hC dX6_lots_51 rfl rfl ?_
    refine j_geti' (pc' := 55) hC dX6_lots_52 rfl fi_X6_162 gm0 ?_
    refine j_bipush (v := 40) (pc' := 57) hC dX6_lots_55 rfl rfl ?_
    refine j_icmp_ge (tgt := 189) (pc' := 60) hC dX6_lots_57 (by decide) rfl (fun c2 => ?_) (fun c2 => ?_)
    · have h := jit_t c2 h
      obtain ⟨q0, q1, q2, q3⟩ := jinj4 h
      subst q0
      subst q1
      subst q2
      subst q3
      refine j_sub [0, 1, 2, 3, 4, 5] rfl ?_
      exact hK
    · have h := jit_f c2 h
      refine j_lload_n 3 (pc' := 61) hC dX6_lots_60 rfl rfl ?_
      refine j_ldc2 (pc' := 64) hC dX6_lots_61 rfl ck_X6_288 ?_
      refine j_lmul (pc' := 65) hC dX6_lots_64 rfl ?_
      refine j_ldc2 (pc' := 68) hC dX6_lots_65 rfl ck_X6_290 ?_
      refine j_lrem (pc' := 69) hC dX6_lots_68 rfl (by decide) ?_
      obtain ⟨v3, ev3, h⟩ := jlet_s h
      refine j_lstore_n (pc' := 70) hC dX6_lots_69 rfl ev3 (by decide) rfl ?_
      refine j_aload_n 1 (pc' := 71) hC dX6_lots_70 rfl rfl ?_
      refine j_aload_n 1 (pc' := 72) hC dX6_lots_71 rfl rfl ?_
      refine j_getr' (o2 := 12) (pc' := 75) hC dX6_lots_72 rfl fi_X6_43 gm0 rfl ?_
      refine j_iconst (v := 0) (pc' := 76) hC dX6_lots_75 rfl rfl ?_
      refine j_iald (pc' := 77) hC dX6_lots_76 rfl gm12 (by decide) ?_
      obtain ⟨r4, hc5, h⟩ := jb1_s h
      refine j_callVi [.int (gi M 12 (0 : Int32).toNatClampNeg)] (pc' := 80) hC dX6_lots_77 rfl (t_X6_shelfOn _ _ hc5) gm0 vcl6 cv_X6_213 ⟨⟨Nat.le_of_ble_eq_true rfl, Nat.le_of_ble_eq_true rfl⟩, rfl, Nat.le_of_ble_eq_true rfl⟩ rfl rfl ?_
      refine j_istore (pc' := 82) hC dX6_lots_80 rfl rfl (by decide) rfl ?_
      refine j_iload 0 (pc' := 84) hC dX6_lots_82 rfl rfl ?_
      obtain ⟨v40, M41, hm43, h⟩ := jb2_s h
      have K42 : jJ Γ GM RM 183 [(0, .ref (jad Γ 0)), (1, .int x1), (2, .int x2), (3, .long v3), (5, .int v40), (6, .int x6), (7, .int r4)] [] M41 Q := by
        obtain ⟨v78, ev78, h⟩ := jlet_s h
        refine j_iinc' 5 (c := 1) (pc' := 186) hC dX6_lots_183 rfl rfl rfl ev78 (by decide) rfl ?_
        refine j_goto (tgt := 45) (pc' := 0) hC dX6_lots_186 (by decide) ?_
        refine j_sub [1, 2, 3, 4, 5, 0] rfl ?_
        exact ih _ _ _ _ _ _ _ _ _ h hK
      refine j_if_ne (tgt := 95) (pc' := 87) hC dX6_lots_84 (by decide) rfl (fun c44 => ?_) (fun c44 => ?_)
      · have hm43 := jit_f c44 hm43
        refine j_iload 0 (pc' := 97) hC dX6_lots_95 rfl rfl ?_
        refine j_lload_n 1 (pc' := 98) hC dX6_lots_97 rfl rfl ?_
        refine j_iload 0 (pc' := 100) hC dX6_lots_98 rfl rfl ?_
        obtain ⟨r45, hc46, hm43⟩ := jb1_s hm43
        refine j_callSi [.int r4] (pc' := 103) hC dX6_lots_100 rfl (t_X6_ones _ _ hc46) cs_X6_200 ⟨⟨Nat.le_of_ble_eq_true rfl, Nat.le_of_ble_eq_true rfl⟩, rfl, Nat.le_of_ble_eq_true rfl⟩ rfl rfl ?_
        refine j_i2l (pc' := 104) hC dX6_lots_103 rfl ?_
        obtain ⟨g47, hm43⟩ := jg_s hm43
        refine j_lrem (pc' := 105) hC dX6_lots_104 rfl (of_decide_eq_true g47) ?_
        refine j_l2i (pc' := 106) hC dX6_lots_105 rfl ?_
        obtain ⟨r48, hc49, hm43⟩ := jb1_s hm43
        refine j_callSi [.int r4, .int (v3 - v3 / r45.toInt64 * r45.toInt64).toInt32] (pc' := 109) hC dX6_lots_106 rfl (t_X6_oneOf _ _ hc49) cs_X6_295 ⟨⟨Nat.le_of_ble_eq_true rfl, Nat.le_of_ble_eq_true rfl⟩, rfl, Nat.le_of_ble_eq_true rfl⟩ rfl rfl ?_
        refine j_istore (pc' := 111) hC dX6_lots_109 rfl rfl (by decide) rfl ?_
        refine j_aload_n 3 (pc' := 112) hC dX6_lots_111 rfl rfl ?_
        refine j_iload 0 (pc' := 114) hC dX6_lots_112 rfl rfl ?_
        obtain ⟨r50, hc51, hm43⟩ := jb1_s hm43
        refine j_callVi [.int r48] (pc' := 117) hC dX6_lots_114 rfl (t_X6_can _ _ hc51) gm0 vcl6 cv_X6_298 ⟨⟨Nat.le_of_ble_eq_true rfl, Nat.le_of_ble_eq_true rfl⟩, rfl, Nat.le_of_ble_eq_true rfl⟩ rfl rfl ?_
        refine j_istore (pc' := 119) hC dX6_lots_117 rfl rfl (by decide) rfl ?_
        refine j_lload_n 3 (pc' := 120) hC dX6_lots_119 rfl rfl ?_
        refine j_ldc2 (pc' := 123) hC dX6_lots_120 rfl ck_X6_301 ?_
        refine j_ldiv (pc' := 124) hC dX6_lots_123 rfl (by decide) ?_
        refine j_iload 0 (pc' := 126) hC dX6_lots_124 rfl rfl ?_
        obtain ⟨r52, hc53, hm43⟩ := jb1_s hm43
        refine j_callSi [.int r50] (pc' := 129) hC dX6_lots_126 rfl (t_X6_ones _ _ hc53) cs_X6_200 ⟨⟨Nat.le_of_ble_eq_true rfl, Nat.le_of_ble_eq_true rfl⟩, rfl, Nat.le_of_ble_eq_true rfl⟩ rfl rfl ?_
        refine j_iconst (v := 1) (pc' := 130) hC dX6_lots_129 rfl rfl ?_
        refine j_iadd (pc' := 131) hC dX6_lots_130 rfl ?_
        refine j_i2l (pc' := 132) hC dX6_lots_131 rfl ?_
        obtain ⟨g54, hm43⟩ := jg_s hm43
        refine j_lrem (pc' := 133) hC dX6_lots_132 rfl (of_decide_eq_true g54) ?_
        refine j_l2i (pc' := 134) hC dX6_lots_133 rfl ?_
        obtain ⟨v55, ev55, hm43⟩ := jlet_s hm43
        refine j_istore (pc' := 136) hC dX6_lots_134 rfl ev55 (by decide) rfl ?_
        refine j_iload 0 (pc' := 138) hC dX6_lots_136 rfl rfl ?_
        refine j_iload 1 (pc' := 140) hC dX6_lots_138 rfl rfl ?_
        obtain ⟨r56, hc57, hm43⟩ := jb1_s hm43
        refine j_callSi [.int r50] (pc' := 143) hC dX6_lots_140 rfl (t_X6_ones _ _ hc57) cs_X6_200 ⟨⟨Nat.le_of_ble_eq_true rfl, Nat.le_of_ble_eq_true rfl⟩, rfl, Nat.le_of_ble_eq_true rfl⟩ rfl rfl ?_
        obtain ⟨v61, hm63, hm43⟩ := jb1_s hm43
        have K62 : jJ Γ GM RM 158 [(0, .ref (jad Γ 0)), (1, .int x1), (2, .int x2), (3, .long v3), (5, .int x5), (6, .int x6), (7, .int r4), (8, .int r48), (9, .int r50), (10, .int v55)] [.int v61] M Q := by
          refine j_istore (pc' := 160) hC dX6_lots_158 rfl rfl (by decide) rfl ?_
          refine j_aload_n 1 (pc' := 161) hC dX6_lots_160 rfl rfl ?_
          refine j_iload 8 (pc' := 163) hC dX6_lots_161 rfl rfl ?_
          refine j_iload 0 (pc' := 165) hC dX6_lots_163 rfl rfl ?_
          obtain ⟨M67, hc68, hm43⟩ := jb1_s hm43
          refine j_callVv [.int r48, .int v61] (pc' := 168) hC dX6_lots_165 rfl (t_X6_openNow _ _ hc68) gm0 vcl6 cv_X6_229 ⟨⟨Nat.le_of_ble_eq_true rfl, Nat.le_of_ble_eq_true rfl⟩, rfl, Nat.le_of_ble_eq_true rfl⟩ rfl rfl ?_
          refine j_iload 5 (pc' := 170) hC dX6_lots_168 rfl rfl ?_
          refine j_iload 0 (pc' := 172) hC dX6_lots_170 rfl rfl ?_
          obtain ⟨v70, hm72, hm43⟩ := jlet_s hm43
          have K71 : jJ Γ GM RM 180 [(0, .ref (jad Γ 0)), (1, .int x1), (2, .int x2), (3, .long v3), (5, .int x5), (6, .int x6), (7, .int r4), (8, .int r48), (9, .int r50), (10, .int v55), (11, .int v61)] [.int v70, .int x5] M67 Q := by
            refine j_iadd (pc' := 181) hC dX6_lots_180 rfl ?_
            obtain ⟨v74, ev74, hm43⟩ := jlet_s hm43
            refine j_istore (pc' := 183) hC dX6_lots_181 rfl ev74 (by decide) rfl ?_
            obtain ⟨q0, q1⟩ := jinj2 hm43
            subst q0
            subst q1
            exact j_sub [1, 2, 3, 4, 0, 5, 6] rfl K42
          refine j_if_ge (tgt := 179) (pc' := 175) hC dX6_lots_172 (by decide) rfl (fun c73 => ?_) (fun c73 => ?_)
          · have hm72 := jit_t c73 hm72
            refine j_iconst (v := 1) (pc' := 180) hC dX6_lots_179 rfl rfl ?_
            subst hm72
            exact j_sub [1, 2, 3, 4, 5, 6, 7, 8, 9, 10, 0] rfl K71
          · have hm72 := jit_f c73 hm72
            refine j_iconst (v := 0) (pc' := 176) hC dX6_lots_175 rfl rfl ?_
            refine j_goto (tgt := 180) (pc' := 0) hC dX6_lots_176 (by decide) ?_
            subst hm72
            exact j_sub [1, 2, 3, 4, 5, 6, 7, 8, 9, 10, 0] rfl K71
        refine j_icmp_ne (tgt := 151) (pc' := 146) hC dX6_lots_143 (by decide) rfl (fun c64 => ?_) (fun c64 => ?_)
        · have hm63 := jit_f c64 hm63
          refine j_iload 1 (pc' := 153) hC dX6_lots_151 rfl rfl ?_
          refine j_iload 0 (pc' := 155) hC dX6_lots_153 rfl rfl ?_
          obtain ⟨r65, hc66, hm63⟩ := jb1_s hm63
          refine j_callSi [.int r50, .int v55] (pc' := 158) hC dX6_lots_155 rfl (t_X6_oneOf _ _ hc66) cs_X6_295 ⟨⟨Nat.le_of_ble_eq_true rfl, Nat.le_of_ble_eq_true rfl⟩, rfl, Nat.le_of_ble_eq_true rfl⟩ rfl rfl ?_
          have q8 := jinj1 hm63
          subst q8
          exact j_sub [5, 6, 7, 4, 8, 9, 3, 2, 1, 0] rfl K62
        · have hm63 := jit_t c64 hm63
          refine j_bipush (v := -9) (pc' := 148) hC dX6_lots_146 rfl rfl ?_
          refine j_goto (tgt := 158) (pc' := 0) hC dX6_lots_148 (by decide) ?_
          have q8 := jinj1 hm63
          subst q8
          exact j_sub [5, 6, 7, 4, 8, 9, 3, 2, 1, 0] rfl K62
      · have hm43 := jit_t c44 hm43
        refine j_aload_n 2 (pc' := 88) hC dX6_lots_87 rfl rfl ?_
        obtain ⟨r75, M76, hc77, hm43⟩ := jb2_s hm43
        refine j_callVi [] (pc' := 91) hC dX6_lots_88 rfl (t_X6_day _ _ hc77) gm0 vcl6 cv_X6_292 ⟨⟨Nat.le_of_ble_eq_true rfl, Nat.le_of_ble_eq_true rfl⟩, rfl, Nat.le_of_ble_eq_true rfl⟩ rfl rfl ?_
        refine j_pop (pc' := 92) hC dX6_lots_91 rfl rfl ?_
        refine j_goto (tgt := 183) (pc' := 0) hC dX6_lots_92 (by decide) ?_
        obtain ⟨q0, q1⟩ := jinj2 hm43
        subst q0
        subst q1
        exact j_sub [2, 3, 4, 1, 5, 6, 0] rfl K42
theorem lp_X6_lots_L45 {Γ : jG} (hC : jOK Γ cX6_lots 12 RX6 (some .int) { frames := 6, cells := 0, slots := 0, locals := 137 }) {Q : State → Prop} (x2 : Int32) : ∀ (n : Nat) (x1 : Int32) (x3 : Int64) (x5 : Int32) (x6 : Int32) (M : jM) (e3 : Int64) (e5 : Int32) (e6 : Int32) (Me : jM), f_X6_lots_L45 n x1 x3 x5 x6 M = some (e3, e5, e6, Me) → jJ Γ GM RM 189 [(0, .ref (jad Γ 0)), (1, .int x1), (2, .int x2), (3, .long e3), (5, .int e5), (6, .int e6)] [] Me Q → jJ Γ GM RM 45 [(0, .ref (jad Γ 0)), (1, .int x1), (2, .int x2), (3, .long x3), (5, .int x5), (6, .int x6)] [] M Q := by
  intro n
  induction n with
  | zero =>
    intro x1 x3 x5 x6 M e3 e5 e6 Me h hK
    exact jno h
  | succ n ih =>
    intro x1 x3 x5 x6 M e3 e5 e6 Me h hK
    exact lp_X6_lots_L45_b hC x2 (f_X6_lots_L45 n) ih x1 x3 x5 x6 M e3 e5 e6 Me h hK
theorem t_X6_lots (l : Launch) (E : jE) {a1 : Int32} {a2 : Int32} {M : jM} {r : Int32} {M' : jM} (h : f_X6_lots a1 a2 M = some (r, M')) : jCi l yX6_lots cX6_lots 12 (some .int) 6 137 E RM GM (fun a _ => [.ref (a 0), .int a1, .int a2]) M r M' := by
  refine jCi_of (own := RX6) (by decide) rfl (fun _ _ => Nat.le_of_ble_eq_true rfl) ?_
  intro Γ hC
  show jJ Γ GM RM 0 [(0, .ref (jad Γ 0)), (1, .int a1), (2, .int a2)] [] M (jQi Γ RM GM r M')
  unfold f_X6_lots at h
  refine j_iload_n 1 (pc' := 1) hC dX6_lots_0 rfl rfl ?_
  refine j_i2l (pc' := 2) hC dX6_lots_1 rfl ?_
  refine j_lconst (v := 1) (pc' := 3) hC dX6_lots_2 rfl rfl ?_
  refine j_ldc2 (pc' := 6) hC dX6_lots_3 rfl ck_X6_281 ?_
  obtain ⟨r1, hc2, h⟩ := jb1_s h
  refine j_callSi [.long a1.toInt64, .long (1 : Int64), .long (20 : Int64)] (pc' := 9) hC dX6_lots_6 rfl (t_X6_in _ _ hc2) cs_X6_93 ⟨⟨Nat.le_of_ble_eq_true rfl, Nat.le_of_ble_eq_true rfl⟩, rfl, Nat.le_of_ble_eq_true rfl⟩ rfl rfl ?_
  refine j_if_eq (tgt := 24) (pc' := 12) hC dX6_lots_9 (by decide) rfl (fun c3 => ?_) (fun c3 => ?_)
  · have h := jit_t c3 h
    refine j_iconst (v := -1) (pc' := 25) hC dX6_lots_24 rfl rfl ?_
    obtain ⟨q0, q1⟩ := jinj2 h
    subst q0
    subst q1
    exact j_iret hC dX6_lots_25
  · have h := jit_f c3 h
    refine j_iload_n 2 (pc' := 13) hC dX6_lots_12 rfl rfl ?_
    refine j_i2l (pc' := 14) hC dX6_lots_13 rfl ?_
    refine j_lconst (v := 1) (pc' := 15) hC dX6_lots_14 rfl rfl ?_
    refine j_ldc2 (pc' := 18) hC dX6_lots_15 rfl ck_X6_286 ?_
    obtain ⟨r4, hc5, h⟩ := jb1_s h
    refine j_callSi [.long a2.toInt64, .long (1 : Int64), .long (2147483646 : Int64)] (pc' := 21) hC dX6_lots_18 rfl (t_X6_in _ _ hc5) cs_X6_93 ⟨⟨Nat.le_of_ble_eq_true rfl, Nat.le_of_ble_eq_true rfl⟩, rfl, Nat.le_of_ble_eq_true rfl⟩ rfl rfl ?_
    refine j_if_ne (tgt := 26) (pc' := 24) hC dX6_lots_21 (by decide) rfl (fun c6 => ?_) (fun c6 => ?_)
    · have h := jit_f c6 h
      refine j_aload_n 0 (pc' := 27) hC dX6_lots_26 rfl rfl ?_
      refine j_geti' (pc' := 30) hC dX6_lots_27 rfl fi_X6_156 gm0 ?_
      refine j_if_ne (tgt := 36) (pc' := 33) hC dX6_lots_30 (by decide) rfl (fun c7 => ?_) (fun c7 => ?_)
      · have h := jit_f c7 h
        refine j_iload_n 2 (pc' := 37) hC dX6_lots_36 rfl rfl ?_
        refine j_i2l (pc' := 38) hC dX6_lots_37 rfl ?_
        refine j_lstore_n (pc' := 39) hC dX6_lots_38 rfl rfl (by decide) rfl ?_
        refine j_iconst (v := 0) (pc' := 40) hC dX6_lots_39 rfl rfl ?_
        refine j_istore (pc' := 42) hC dX6_lots_40 rfl rfl (by decide) rfl ?_
        refine j_iconst (v := 0) (pc' := 43) hC dX6_lots_42 rfl rfl ?_
        refine j_istore (pc' := 45) hC dX6_lots_43 rfl rfl (by decide) rfl ?_
        refine j_sub [3, 4, 5, 2, 1, 0] rfl ?_
        obtain ⟨v8, v9, v10, M11, hm12, h⟩ := jb4_s h
        refine lp_X6_lots_L45 hC a2 jfu a1 a2.toInt64 (0 : Int32) (0 : Int32) M v8 v9 v10 M11 hm12 ?_
        refine j_iload 4 (pc' := 191) hC dX6_lots_189 rfl rfl ?_
        obtain ⟨q0, q1⟩ := jinj2 h
        subst q0
        subst q1
        exact j_iret hC dX6_lots_191
      · have h := jit_t c7 h
        refine j_bipush (v := -4) (pc' := 35) hC dX6_lots_33 rfl rfl ?_
        obtain ⟨q0, q1⟩ := jinj2 h
        subst q0
        subst q1
        exact j_iret hC dX6_lots_35
    · have h := jit_t c6 h
      refine j_iconst (v := -1) (pc' := 25) hC dX6_lots_24 rfl rfl ?_
      obtain ⟨q0, q1⟩ := jinj2 h
      subst q0
      subst q1
      exact j_iret hC dX6_lots_25
theorem t_X6_asked (l : Launch) (E : jE) {M : jM} {r : Int32} (h : f_X6_asked M = some r) : jCi l yX6_asked cX6_asked 1 (some .int) 0 0 E RM GM (fun a _ => [.ref (a 0)]) M r M := by
  refine jCi_of (own := RX6) (by decide) rfl (fun _ _ => Nat.le_of_ble_eq_true rfl) ?_
  intro Γ hC
  show jJ Γ GM RM 0 [(0, .ref (jad Γ 0))] [] M (jQi Γ RM GM r M)
  unfold f_X6_asked at h
  refine j_aload_n 0 (pc' := 1) hC dX6_asked_0 rfl rfl ?_
  refine j_geti' (pc' := 4) hC dX6_asked_1 rfl fi_X6_88 gm0 ?_
  have q8 := jinj1 h
  subst q8
  exact j_iret hC dX6_asked_4
theorem t_X6_upper (l : Launch) (E : jE) {M : jM} {r : Int64} (h : f_X6_upper M = some r) : jCl l yX6_upper cX6_upper 1 (some .long) 0 0 E RM GM (fun a _ => [.ref (a 0)]) M r M := by
  refine jCl_of (own := RX6) (by decide) rfl (fun _ _ => Nat.le_of_ble_eq_true rfl) ?_
  intro Γ hC
  show jJ Γ GM RM 0 [(0, .ref (jad Γ 0))] [] M (jQl Γ RM GM r M)
  unfold f_X6_upper at h
  refine j_aload_n 0 (pc' := 1) hC dX6_upper_0 rfl rfl ?_
  refine j_getl' (pc' := 4) hC dX6_upper_1 rfl fi_X6_283 gm0 ?_
  have q8 := jinj1 h
  subst q8
  exact j_lret hC dX6_upper_4
theorem t_X6_lower (l : Launch) (E : jE) {M : jM} {r : Int64} (h : f_X6_lower M = some r) : jCl l yX6_lower cX6_lower 1 (some .long) 0 0 E RM GM (fun a _ => [.ref (a 0)]) M r M := by
  refine jCl_of (own := RX6) (by decide) rfl (fun _ _ => Nat.le_of_ble_eq_true rfl) ?_
  intro Γ hC
  show jJ Γ GM RM 0 [(0, .ref (jad Γ 0))] [] M (jQl Γ RM GM r M)
  unfold f_X6_lower at h
  refine j_aload_n 0 (pc' := 1) hC dX6_lower_0 rfl rfl ?_
  refine j_getl' (pc' := 4) hC dX6_lower_1 rfl fi_X6_49 gm0 ?_
  have q8 := jinj1 h
  subst q8
  exact j_lret hC dX6_lower_4
theorem lp_X6_there_L4_b {Γ : jG} (hC : jOK Γ cX6_there 3 RX6 (some .int) { frames := 0, cells := 0, slots := 0, locals := 0 }) {Q : State → Prop} (o0 : Nat) (n0 : Nat) (ho0 : GM[o0]? = some (0, n0)) (rec : Int32 → Int32 → jM → Option (Int32 × Int32)) (ih : ∀ (x1 : Int32) (x2 : Int32) (M : jM) (e1 : Int32) (e2 : Int32), rec x1 x2 M = some (e1, e2) → jJ Γ GM RM 30 [(0, .ref (jad Γ o0)), (1, .int e1), (2, .int e2)] [] M Q → jJ Γ GM RM 4 [(0, .ref (jad Γ o0)), (1, .int x1), (2, .int x2)] [] M Q) (x1 : Int32) (x2 : Int32) (M : jM) (e1 : Int32) (e2 : Int32) (h : f_X6_there_L4_b o0 n0 rec x1 x2 M = some (e1, e2)) (hK : jJ Γ GM RM 30 [(0, .ref (jad Γ o0)), (1, .int e1), (2, .int e2)] [] M Q) : jJ Γ GM RM 4 [(0, .ref (jad Γ o0)), (1, .int x1), (2, .int x2)] [] M Q := by
  unfold f_X6_there_L4_b at h
  refine j_iload_n 2 (pc' := 5) hC dX6_there_4 rfl rfl ?_
  refine j_aload_n 0 (pc' := 6) hC dX6_there_5 rfl rfl ?_
  refine j_alen0 (v := (Int32.ofNat n0)) (pc' := 7) hC dX6_there_6 rfl ho0 rfl ?_
  refine j_icmp_ge (tgt := 30) (pc' := 10) hC dX6_there_7 (by decide) rfl (fun c1 => ?_) (fun c1 => ?_)
  · have h := jit_t c1 h
    obtain ⟨q0, q1⟩ := jinj2 h
    subst q0
    subst q1
    refine j_sub [0, 1, 2] rfl ?_
    exact hK
  · have h := jit_f c1 h
    refine j_iload_n 1 (pc' := 11) hC dX6_there_10 rfl rfl ?_
    refine j_aload_n 0 (pc' := 12) hC dX6_there_11 rfl rfl ?_
    refine j_iload_n 2 (pc' := 13) hC dX6_there_12 rfl rfl ?_
    obtain ⟨g2, h⟩ := jg_s h
    refine j_iald (pc' := 14) hC dX6_there_13 rfl ho0 g2 ?_
    obtain ⟨v4, hm6, h⟩ := jlet_s h
    have K5 : jJ Γ GM RM 22 [(0, .ref (jad Γ o0)), (1, .int x1), (2, .int x2)] [.int v4, .int x1] M Q := by
      refine j_iadd (pc' := 23) hC dX6_there_22 rfl ?_
      obtain ⟨v8, ev8, h⟩ := jlet_s h
      refine j_istore_n (pc' := 24) hC dX6_there_23 rfl ev8 (by decide) rfl ?_
      obtain ⟨v9, ev9, h⟩ := jlet_s h
      refine j_iinc' 2 (c := 1) (pc' := 27) hC dX6_there_24 rfl rfl rfl ev9 (by decide) rfl ?_
      refine j_goto (tgt := 4) (pc' := 0) hC dX6_there_27 (by decide) ?_
      refine j_sub [2, 1, 0] rfl ?_
      exact ih _ _ _ _ _ h hK
    refine j_if_lt (tgt := 21) (pc' := 17) hC dX6_there_14 (by decide) rfl (fun c7 => ?_) (fun c7 => ?_)
    · have hm6 := jit_t c7 hm6
      refine j_iconst (v := 0) (pc' := 22) hC dX6_there_21 rfl rfl ?_
      subst hm6
      exact j_sub [0, 1, 2] rfl K5
    · have hm6 := jit_f c7 hm6
      refine j_iconst (v := 1) (pc' := 18) hC dX6_there_17 rfl rfl ?_
      refine j_goto (tgt := 22) (pc' := 0) hC dX6_there_18 (by decide) ?_
      subst hm6
      exact j_sub [0, 1, 2] rfl K5
theorem lp_X6_there_L4 {Γ : jG} (hC : jOK Γ cX6_there 3 RX6 (some .int) { frames := 0, cells := 0, slots := 0, locals := 0 }) {Q : State → Prop} (o0 : Nat) (n0 : Nat) (ho0 : GM[o0]? = some (0, n0)) : ∀ (n : Nat) (x1 : Int32) (x2 : Int32) (M : jM) (e1 : Int32) (e2 : Int32), f_X6_there_L4 o0 n0 n x1 x2 M = some (e1, e2) → jJ Γ GM RM 30 [(0, .ref (jad Γ o0)), (1, .int e1), (2, .int e2)] [] M Q → jJ Γ GM RM 4 [(0, .ref (jad Γ o0)), (1, .int x1), (2, .int x2)] [] M Q := by
  intro n
  induction n with
  | zero =>
    intro x1 x2 M e1 e2 h hK
    exact jno h
  | succ n ih =>
    intro x1 x2 M e1 e2 h hK
    exact lp_X6_there_L4_b hC o0 n0 ho0 (f_X6_there_L4 o0 n0 n) ih x1 x2 M e1 e2 h hK
theorem t_X6_there (l : Launch) (E : jE) {o1 : Nat} {n1 : Nat} (ho1 : GM[o1]? = some (0, n1)) {M : jM} {r : Int32} (h : f_X6_there o1 n1 M = some r) : jCi l yX6_there cX6_there 3 (some .int) 0 0 E RM GM (fun a _ => [.ref (a o1)]) M r M := by
  refine jCi_of (own := RX6) (by decide) rfl (fun _ _ => Nat.le_of_ble_eq_true rfl) ?_
  intro Γ hC
  show jJ Γ GM RM 0 [(0, .ref (jad Γ o1))] [] M (jQi Γ RM GM r M)
  unfold f_X6_there at h
  refine j_iconst (v := 0) (pc' := 1) hC dX6_there_0 rfl rfl ?_
  refine j_istore_n (pc' := 2) hC dX6_there_1 rfl rfl (by decide) rfl ?_
  refine j_iconst (v := 0) (pc' := 3) hC dX6_there_2 rfl rfl ?_
  refine j_istore_n (pc' := 4) hC dX6_there_3 rfl rfl (by decide) rfl ?_
  refine j_sub [2, 1, 0] rfl ?_
  obtain ⟨v1, v2, hm3, h⟩ := jb2_s h
  refine lp_X6_there_L4 hC o1 n1 ho1 jfu (0 : Int32) (0 : Int32) M v1 v2 hm3 ?_
  refine j_iload_n 1 (pc' := 31) hC dX6_there_30 rfl rfl ?_
  have q8 := jinj1 h
  subst q8
  exact j_iret hC dX6_there_31
theorem lp_X6_count_L4_b {Γ : jG} (hC : jOK Γ cX6_count 4 RX6 (some .int) { frames := 1, cells := 0, slots := 0, locals := 22 }) {Q : State → Prop} (x1 : Int32) (rec : Int32 → Int32 → jM → Option (Int32 × Int32)) (ih : ∀ (x2 : Int32) (x3 : Int32) (M : jM) (e2 : Int32) (e3 : Int32), rec x2 x3 M = some (e2, e3) → jJ Γ GM RM 39 [(0, .ref (jad Γ 0)), (1, .int x1), (2, .int e2), (3, .int e3)] [] M Q → jJ Γ GM RM 4 [(0, .ref (jad Γ 0)), (1, .int x1), (2, .int x2), (3, .int x3)] [] M Q) (x2 : Int32) (x3 : Int32) (M : jM) (e2 : Int32) (e3 : Int32) (h : f_X6_count_L4_b rec x2 x3 M = some (e2, e3)) (hK : jJ Γ GM RM 39 [(0, .ref (jad Γ 0)), (1, .int x1), (2, .int e2), (3, .int e3)] [] M Q) : jJ Γ GM RM 4 [(0, .ref (jad Γ 0)), (1, .int x1), (2, .int x2), (3, .int x3)] [] M Q := by
  unfold f_X6_count_L4_b at h
  refine j_iload_n 3 (pc' := 5) hC dX6_count_4 rfl rfl ?_
  refine j_aload_n 0 (pc' := 6) hC dX6_count_5 rfl rfl ?_
  refine j_geti' (pc' := 9) hC dX6_count_6 rfl fi_X6_156 gm0 ?_
  refine j_icmp_ge (tgt := 39) (pc' := 12) hC dX6_count_9 (by decide) rfl (fun c1 => ?_) (fun c1 => ?_)
  · have h := jit_t c1 h
    obtain ⟨q0, q1⟩ := jinj2 h
    subst q0
    subst q1
    refine j_sub [0, 1, 2, 3] rfl ?_
    exact hK
  · have h := jit_f c1 h
    refine j_iload_n 2 (pc' := 13) hC dX6_count_12 rfl rfl ?_
    refine j_aload_n 0 (pc' := 14) hC dX6_count_13 rfl rfl ?_
    refine j_getr' (o2 := 5) (pc' := 17) hC dX6_count_14 rfl fi_X6_22 gm0 rfl ?_
    refine j_iload_n 3 (pc' := 18) hC dX6_count_17 rfl rfl ?_
    obtain ⟨g2, h⟩ := jg_s h
    refine j_iald (pc' := 19) hC dX6_count_18 rfl gm5 g2 ?_
    refine j_iconst (v := 1) (pc' := 20) hC dX6_count_19 rfl rfl ?_
    obtain ⟨r3, hc4, h⟩ := jb1_s h
    refine j_callSi [.int (gi M 5 x3.toNatClampNeg), .int (1 : Int32)] (pc' := 23) hC dX6_count_20 rfl (t_X6_isKind _ _ hc4) cs_X6_195 ⟨⟨Nat.le_of_ble_eq_true rfl, Nat.le_of_ble_eq_true rfl⟩, rfl, Nat.le_of_ble_eq_true rfl⟩ rfl rfl ?_
    obtain ⟨v6, hm8, h⟩ := jlet_s h
    have K7 : jJ Γ GM RM 31 [(0, .ref (jad Γ 0)), (1, .int x1), (2, .int x2), (3, .int x3)] [.int v6, .int x2] M Q := by
      refine j_iadd (pc' := 32) hC dX6_count_31 rfl ?_
      obtain ⟨v10, ev10, h⟩ := jlet_s h
      refine j_istore_n (pc' := 33) hC dX6_count_32 rfl ev10 (by decide) rfl ?_
      obtain ⟨v11, ev11, h⟩ := jlet_s h
      refine j_iinc' 3 (c := 1) (pc' := 36) hC dX6_count_33 rfl rfl rfl ev11 (by decide) rfl ?_
      refine j_goto (tgt := 4) (pc' := 0) hC dX6_count_36 (by decide) ?_
      refine j_sub [2, 3, 1, 0] rfl ?_
      exact ih _ _ _ _ _ h hK
    refine j_if_eq (tgt := 30) (pc' := 26) hC dX6_count_23 (by decide) rfl (fun c9 => ?_) (fun c9 => ?_)
    · have hm8 := jit_t c9 hm8
      refine j_iconst (v := 0) (pc' := 31) hC dX6_count_30 rfl rfl ?_
      subst hm8
      exact j_sub [0, 1, 2, 3] rfl K7
    · have hm8 := jit_f c9 hm8
      refine j_iconst (v := 1) (pc' := 27) hC dX6_count_26 rfl rfl ?_
      refine j_goto (tgt := 31) (pc' := 0) hC dX6_count_27 (by decide) ?_
      subst hm8
      exact j_sub [0, 1, 2, 3] rfl K7
theorem lp_X6_count_L4 {Γ : jG} (hC : jOK Γ cX6_count 4 RX6 (some .int) { frames := 1, cells := 0, slots := 0, locals := 22 }) {Q : State → Prop} (x1 : Int32) : ∀ (n : Nat) (x2 : Int32) (x3 : Int32) (M : jM) (e2 : Int32) (e3 : Int32), f_X6_count_L4 n x2 x3 M = some (e2, e3) → jJ Γ GM RM 39 [(0, .ref (jad Γ 0)), (1, .int x1), (2, .int e2), (3, .int e3)] [] M Q → jJ Γ GM RM 4 [(0, .ref (jad Γ 0)), (1, .int x1), (2, .int x2), (3, .int x3)] [] M Q := by
  intro n
  induction n with
  | zero =>
    intro x2 x3 M e2 e3 h hK
    exact jno h
  | succ n ih =>
    intro x2 x3 M e2 e3 h hK
    exact lp_X6_count_L4_b hC x1 (f_X6_count_L4 n) ih x2 x3 M e2 e3 h hK
theorem t_X6_count (l : Launch) (E : jE) {a1 : Int32} {M : jM} {r : Int32} (h : f_X6_count a1 M = some r) : jCi l yX6_count cX6_count 4 (some .int) 1 22 E RM GM (fun a _ => [.ref (a 0), .int a1]) M r M := by
  refine jCi_of (own := RX6) (by decide) rfl (fun _ _ => Nat.le_of_ble_eq_true rfl) ?_
  intro Γ hC
  show jJ Γ GM RM 0 [(0, .ref (jad Γ 0)), (1, .int a1)] [] M (jQi Γ RM GM r M)
  unfold f_X6_count at h
  refine j_iconst (v := 0) (pc' := 1) hC dX6_count_0 rfl rfl ?_
  refine j_istore_n (pc' := 2) hC dX6_count_1 rfl rfl (by decide) rfl ?_
  refine j_iconst (v := 0) (pc' := 3) hC dX6_count_2 rfl rfl ?_
  refine j_istore_n (pc' := 4) hC dX6_count_3 rfl rfl (by decide) rfl ?_
  refine j_sub [2, 3, 1, 0] rfl ?_
  obtain ⟨v1, v2, hm3, h⟩ := jb2_s h
  refine lp_X6_count_L4 hC a1 jfu (0 : Int32) (0 : Int32) M v1 v2 hm3 ?_
  refine j_iload_n 1 (pc' := 40) hC dX6_count_39 rfl rfl ?_
  by_cases c27 : a1 = 0
  · have h := jit_t c27 h
    refine j_tab (tgt := 92) (pc' := 0) hC dX6_count_40 c27 (by decide) (by decide) rfl (by decide) ?_
    refine j_aload_n 0 (pc' := 93) hC dX6_count_92 rfl rfl ?_
    refine j_geti' (pc' := 96) hC dX6_count_93 rfl fi_X6_156 gm0 ?_
    have q8 := jinj1 h
    subst q8
    exact j_iret hC dX6_count_96
  · have h := jit_f c27 h
    by_cases c28 : a1 = 1
    · have h := jit_t c28 h
      refine j_tab (tgt := 97) (pc' := 0) hC dX6_count_40 c28 (by decide) (by decide) rfl (by decide) ?_
      refine j_aload_n 0 (pc' := 98) hC dX6_count_97 rfl rfl ?_
      refine j_geti' (pc' := 101) hC dX6_count_98 rfl fi_X6_159 gm0 ?_
      have q8 := jinj1 h
      subst q8
      exact j_iret hC dX6_count_101
    · have h := jit_f c28 h
      by_cases c29 : a1 = 2
      · have h := jit_t c29 h
        refine j_tab (tgt := 102) (pc' := 0) hC dX6_count_40 c29 (by decide) (by decide) rfl (by decide) ?_
        refine j_aload_n 0 (pc' := 103) hC dX6_count_102 rfl rfl ?_
        refine j_geti' (pc' := 106) hC dX6_count_103 rfl fi_X6_162 gm0 ?_
        have q8 := jinj1 h
        subst q8
        exact j_iret hC dX6_count_106
      · have h := jit_f c29 h
        by_cases c30 : a1 = 3
        · have h := jit_t c30 h
          refine j_tab (tgt := 107) (pc' := 0) hC dX6_count_40 c30 (by decide) (by decide) rfl (by decide) ?_
          refine j_aload_n 0 (pc' := 108) hC dX6_count_107 rfl rfl ?_
          refine j_getr' (o2 := 12) (pc' := 111) hC dX6_count_108 rfl fi_X6_43 gm0 rfl ?_
          refine j_iconst (v := 3) (pc' := 112) hC dX6_count_111 rfl rfl ?_
          refine j_iald (pc' := 113) hC dX6_count_112 rfl gm12 (by decide) ?_
          obtain ⟨r4, hc5, h⟩ := jb1_s h
          refine j_callSi [.int (gi M 12 (3 : Int32).toNatClampNeg)] (pc' := 116) hC dX6_count_113 rfl (t_X6_ones _ _ hc5) cs_X6_200 ⟨⟨Nat.le_of_ble_eq_true rfl, Nat.le_of_ble_eq_true rfl⟩, rfl, Nat.le_of_ble_eq_true rfl⟩ rfl rfl ?_
          have q8 := jinj1 h
          subst q8
          exact j_iret hC dX6_count_116
        · have h := jit_f c30 h
          by_cases c31 : a1 = 4
          · have h := jit_t c31 h
            refine j_tab (tgt := 117) (pc' := 0) hC dX6_count_40 c31 (by decide) (by decide) rfl (by decide) ?_
            refine j_aload_n 0 (pc' := 118) hC dX6_count_117 rfl rfl ?_
            refine j_getr' (o2 := 12) (pc' := 121) hC dX6_count_118 rfl fi_X6_43 gm0 rfl ?_
            refine j_iconst (v := 1) (pc' := 122) hC dX6_count_121 rfl rfl ?_
            refine j_iald (pc' := 123) hC dX6_count_122 rfl gm12 (by decide) ?_
            obtain ⟨r6, hc7, h⟩ := jb1_s h
            refine j_callSi [.int (gi M 12 (1 : Int32).toNatClampNeg)] (pc' := 126) hC dX6_count_123 rfl (t_X6_ones _ _ hc7) cs_X6_200 ⟨⟨Nat.le_of_ble_eq_true rfl, Nat.le_of_ble_eq_true rfl⟩, rfl, Nat.le_of_ble_eq_true rfl⟩ rfl rfl ?_
            have q8 := jinj1 h
            subst q8
            exact j_iret hC dX6_count_126
          · have h := jit_f c31 h
            by_cases c32 : a1 = 5
            · have h := jit_t c32 h
              refine j_tab (tgt := 127) (pc' := 0) hC dX6_count_40 c32 (by decide) (by decide) rfl (by decide) ?_
              refine j_iload_n 2 (pc' := 128) hC dX6_count_127 rfl rfl ?_
              have q8 := jinj1 h
              subst q8
              exact j_iret hC dX6_count_128
            · have h := jit_f c32 h
              by_cases c33 : a1 = 6
              · have h := jit_t c33 h
                refine j_tab (tgt := 129) (pc' := 0) hC dX6_count_40 c33 (by decide) (by decide) rfl (by decide) ?_
                refine j_aload_n 0 (pc' := 130) hC dX6_count_129 rfl rfl ?_
                refine j_getr' (o2 := 1) (pc' := 133) hC dX6_count_130 rfl fi_X6_7 gm0 rfl ?_
                obtain ⟨r8, hc9, h⟩ := jb1_s h
                refine j_callSi [.ref (jad Γ 1)] (pc' := 136) hC dX6_count_133 rfl (t_X6_there _ _ gm1 hc9) cs_X6_303 ⟨⟨Nat.le_of_ble_eq_true rfl, Nat.le_of_ble_eq_true rfl⟩, rfl, Nat.le_of_ble_eq_true rfl⟩ rfl rfl ?_
                have q8 := jinj1 h
                subst q8
                exact j_iret hC dX6_count_136
              · have h := jit_f c33 h
                by_cases c34 : a1 = 7
                · have h := jit_t c34 h
                  refine j_tab (tgt := 137) (pc' := 0) hC dX6_count_40 c34 (by decide) (by decide) rfl (by decide) ?_
                  refine j_aload_n 0 (pc' := 138) hC dX6_count_137 rfl rfl ?_
                  refine j_getr' (o2 := 3) (pc' := 141) hC dX6_count_138 rfl fi_X6_16 gm0 rfl ?_
                  obtain ⟨r10, hc11, h⟩ := jb1_s h
                  refine j_callSi [.ref (jad Γ 3)] (pc' := 144) hC dX6_count_141 rfl (t_X6_there _ _ gm3 hc11) cs_X6_303 ⟨⟨Nat.le_of_ble_eq_true rfl, Nat.le_of_ble_eq_true rfl⟩, rfl, Nat.le_of_ble_eq_true rfl⟩ rfl rfl ?_
                  have q8 := jinj1 h
                  subst q8
                  exact j_iret hC dX6_count_144
                · have h := jit_f c34 h
                  by_cases c35 : a1 = 8
                  · have h := jit_t c35 h
                    refine j_tab (tgt := 145) (pc' := 0) hC dX6_count_40 c35 (by decide) (by decide) rfl (by decide) ?_
                    refine j_aload_n 0 (pc' := 146) hC dX6_count_145 rfl rfl ?_
                    refine j_getr' (o2 := 18) (pc' := 149) hC dX6_count_146 rfl fi_X6_65 gm0 rfl ?_
                    refine j_iconst (v := 0) (pc' := 150) hC dX6_count_149 rfl rfl ?_
                    refine j_zald (pc' := 151) hC dX6_count_150 rfl gm18 (by decide) ?_
                    obtain ⟨v13, hm15, h⟩ := jlet_s h
                    have K14 : jJ Γ GM RM 159 [(0, .ref (jad Γ 0)), (1, .int a1), (2, .int v1), (3, .int v2)] [.int v13] M (jQi Γ RM GM r M) := by
                      refine j_aload_n 0 (pc' := 160) hC dX6_count_159 rfl rfl ?_
                      refine j_getr' (o2 := 18) (pc' := 163) hC dX6_count_160 rfl fi_X6_65 gm0 rfl ?_
                      refine j_iconst (v := 1) (pc' := 164) hC dX6_count_163 rfl rfl ?_
                      refine j_zald (pc' := 165) hC dX6_count_164 rfl gm18 (by decide) ?_
                      obtain ⟨v18, hm20, h⟩ := jlet_s h
                      have K19 : jJ Γ GM RM 173 [(0, .ref (jad Γ 0)), (1, .int a1), (2, .int v1), (3, .int v2)] [.int v18, .int v13] M (jQi Γ RM GM r M) := by
                        refine j_iadd (pc' := 174) hC dX6_count_173 rfl ?_
                        refine j_aload_n 0 (pc' := 175) hC dX6_count_174 rfl rfl ?_
                        refine j_getr' (o2 := 18) (pc' := 178) hC dX6_count_175 rfl fi_X6_65 gm0 rfl ?_
                        refine j_iconst (v := 2) (pc' := 179) hC dX6_count_178 rfl rfl ?_
                        refine j_zald (pc' := 180) hC dX6_count_179 rfl gm18 (by decide) ?_
                        obtain ⟨v23, hm25, h⟩ := jlet_s h
                        have K24 : jJ Γ GM RM 188 [(0, .ref (jad Γ 0)), (1, .int a1), (2, .int v1), (3, .int v2)] [.int v23, .int (v13 + v18)] M (jQi Γ RM GM r M) := by
                          refine j_iadd (pc' := 189) hC dX6_count_188 rfl ?_
                          have q8 := jinj1 h
                          subst q8
                          exact j_iret hC dX6_count_189
                        refine j_if_eq (tgt := 187) (pc' := 183) hC dX6_count_180 (by decide) rfl (fun c26 => ?_) (fun c26 => ?_)
                        · have hm25 := jit_t c26 hm25
                          refine j_iconst (v := 0) (pc' := 188) hC dX6_count_187 rfl rfl ?_
                          subst hm25
                          exact j_sub [0, 1, 2, 3] rfl K24
                        · have hm25 := jit_f c26 hm25
                          refine j_iconst (v := 1) (pc' := 184) hC dX6_count_183 rfl rfl ?_
                          refine j_goto (tgt := 188) (pc' := 0) hC dX6_count_184 (by decide) ?_
                          subst hm25
                          exact j_sub [0, 1, 2, 3] rfl K24
                      refine j_if_eq (tgt := 172) (pc' := 168) hC dX6_count_165 (by decide) rfl (fun c21 => ?_) (fun c21 => ?_)
                      · have hm20 := jit_t c21 hm20
                        refine j_iconst (v := 0) (pc' := 173) hC dX6_count_172 rfl rfl ?_
                        subst hm20
                        exact j_sub [0, 1, 2, 3] rfl K19
                      · have hm20 := jit_f c21 hm20
                        refine j_iconst (v := 1) (pc' := 169) hC dX6_count_168 rfl rfl ?_
                        refine j_goto (tgt := 173) (pc' := 0) hC dX6_count_169 (by decide) ?_
                        subst hm20
                        exact j_sub [0, 1, 2, 3] rfl K19
                    refine j_if_eq (tgt := 158) (pc' := 154) hC dX6_count_151 (by decide) rfl (fun c16 => ?_) (fun c16 => ?_)
                    · have hm15 := jit_t c16 hm15
                      refine j_iconst (v := 0) (pc' := 159) hC dX6_count_158 rfl rfl ?_
                      subst hm15
                      exact j_sub [0, 1, 2, 3] rfl K14
                    · have hm15 := jit_f c16 hm15
                      refine j_iconst (v := 1) (pc' := 155) hC dX6_count_154 rfl rfl ?_
                      refine j_goto (tgt := 159) (pc' := 0) hC dX6_count_155 (by decide) ?_
                      subst hm15
                      exact j_sub [0, 1, 2, 3] rfl K14
                  · have h := jit_f c35 h
                    refine j_tabOut (tgt := 190) (pc' := 0) hC dX6_count_40 (by have n0 := jneI (k := 0) rfl c27; have n1 := jneI (k := 1) rfl c28; have n2 := jneI (k := 2) rfl c29; have n3 := jneI (k := 3) rfl c30; have n4 := jneI (k := 4) rfl c31; have n5 := jneI (k := 5) rfl c32; have n6 := jneI (k := 6) rfl c33; have n7 := jneI (k := 7) rfl c34; have n8 := jneI (k := 8) rfl c35; omega) (by decide) ?_
                    refine j_iconst (v := -1) (pc' := 191) hC dX6_count_190 rfl rfl ?_
                    have q8 := jinj1 h
                    subst q8
                    exact j_iret hC dX6_count_191
theorem t_X6_finding (l : Launch) (E : jE) {M : jM} {r : Int32} (h : f_X6_finding M = some r) : jCi l yX6_finding cX6_finding 1 (some .int) 0 0 E RM GM (fun a _ => [.ref (a 0)]) M r M := by
  refine jCi_of (own := RX6) (by decide) rfl (fun _ _ => Nat.le_of_ble_eq_true rfl) ?_
  intro Γ hC
  show jJ Γ GM RM 0 [(0, .ref (jad Γ 0))] [] M (jQi Γ RM GM r M)
  unfold f_X6_finding at h
  refine j_aload_n 0 (pc' := 1) hC dX6_finding_0 rfl rfl ?_
  refine j_geti' (pc' := 4) hC dX6_finding_1 rfl fi_X6_84 gm0 ?_
  have q8 := jinj1 h
  subst q8
  exact j_iret hC dX6_finding_4
theorem t_X6_findings (l : Launch) (E : jE) {a1 : Int32} {M : jM} {r : Int32} (h : f_X6_findings a1 M = some r) : jCi l yX6_findings cX6_findings 2 (some .int) 1 25 E RM GM (fun a _ => [.ref (a 0), .int a1]) M r M := by
  refine jCi_of (own := RX6) (by decide) rfl (fun _ _ => Nat.le_of_ble_eq_true rfl) ?_
  intro Γ hC
  show jJ Γ GM RM 0 [(0, .ref (jad Γ 0)), (1, .int a1)] [] M (jQi Γ RM GM r M)
  unfold f_X6_findings at h
  refine j_iload_n 1 (pc' := 1) hC dX6_findings_0 rfl rfl ?_
  refine j_i2l (pc' := 2) hC dX6_findings_1 rfl ?_
  refine j_lconst (v := 1) (pc' := 3) hC dX6_findings_2 rfl rfl ?_
  refine j_ldc2 (pc' := 6) hC dX6_findings_3 rfl ck_X6_91 ?_
  obtain ⟨r1, hc2, h⟩ := jb1_s h
  refine j_callSi [.long a1.toInt64, .long (1 : Int64), .long (5 : Int64)] (pc' := 9) hC dX6_findings_6 rfl (t_X6_in _ _ hc2) cs_X6_93 ⟨⟨Nat.le_of_ble_eq_true rfl, Nat.le_of_ble_eq_true rfl⟩, rfl, Nat.le_of_ble_eq_true rfl⟩ rfl rfl ?_
  refine j_if_eq (tgt := 21) (pc' := 12) hC dX6_findings_9 (by decide) rfl (fun c3 => ?_) (fun c3 => ?_)
  · have h := jit_t c3 h
    refine j_iconst (v := -1) (pc' := 22) hC dX6_findings_21 rfl rfl ?_
    have q8 := jinj1 h
    subst q8
    exact j_iret hC dX6_findings_22
  · have h := jit_f c3 h
    refine j_aload_n 0 (pc' := 13) hC dX6_findings_12 rfl rfl ?_
    refine j_getr' (o2 := 14) (pc' := 16) hC dX6_findings_13 rfl fi_X6_53 gm0 rfl ?_
    refine j_iload_n 1 (pc' := 17) hC dX6_findings_16 rfl rfl ?_
    obtain ⟨g4, h⟩ := jg_s h
    refine j_iald (pc' := 18) hC dX6_findings_17 rfl gm14 g4 ?_
    refine j_goto (tgt := 22) (pc' := 0) hC dX6_findings_18 (by decide) ?_
    have q8 := jinj1 h
    subst q8
    exact j_iret hC dX6_findings_22
