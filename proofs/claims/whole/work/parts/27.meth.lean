theorem t_X5_asked (l : Launch) (E : jE) {M : jM} {r : Int32} (h : f_X5_asked M = some r) : jCi l yX5_asked cX5_asked 1 (some .int) 0 0 E RX GX (fun a _ => [.ref (a 0)]) M r M := by
  refine jCi_of (own := RX5) (by decide) rfl (fun _ _ => Nat.le_of_ble_eq_true rfl) ?_
  intro Γ hC
  show jJ Γ GX RX 0 [(0, .ref (jad Γ 0))] [] M (jQi Γ RX GX r M)
  unfold f_X5_asked at h
  refine j_aload_n 0 (pc' := 1) hC dX5_asked_0 rfl rfl ?_
  refine j_geti' (pc' := 4) hC dX5_asked_1 rfl fi_X5_67 gx0 ?_
  have q8 := jinj1 h
  subst q8
  exact j_iret hC dX5_asked_4
theorem t_X5_upper (l : Launch) (E : jE) {M : jM} {r : Int64} (h : f_X5_upper M = some r) : jCl l yX5_upper cX5_upper 1 (some .long) 0 0 E RX GX (fun a _ => [.ref (a 0)]) M r M := by
  refine jCl_of (own := RX5) (by decide) rfl (fun _ _ => Nat.le_of_ble_eq_true rfl) ?_
  intro Γ hC
  show jJ Γ GX RX 0 [(0, .ref (jad Γ 0))] [] M (jQl Γ RX GX r M)
  unfold f_X5_upper at h
  refine j_aload_n 0 (pc' := 1) hC dX5_upper_0 rfl rfl ?_
  refine j_getl' (pc' := 4) hC dX5_upper_1 rfl fi_X5_70 gx0 ?_
  have q8 := jinj1 h
  subst q8
  exact j_lret hC dX5_upper_4
theorem t_X5_lower (l : Launch) (E : jE) {M : jM} {r : Int64} (h : f_X5_lower M = some r) : jCl l yX5_lower cX5_lower 1 (some .long) 0 0 E RX GX (fun a _ => [.ref (a 0)]) M r M := by
  refine jCl_of (own := RX5) (by decide) rfl (fun _ _ => Nat.le_of_ble_eq_true rfl) ?_
  intro Γ hC
  show jJ Γ GX RX 0 [(0, .ref (jad Γ 0))] [] M (jQl Γ RX GX r M)
  unfold f_X5_lower at h
  refine j_aload_n 0 (pc' := 1) hC dX5_lower_0 rfl rfl ?_
  refine j_getl' (pc' := 4) hC dX5_lower_1 rfl fi_X5_74 gx0 ?_
  have q8 := jinj1 h
  subst q8
  exact j_lret hC dX5_lower_4
theorem lp_X2_meals_L4_b {Γ : jG} (hC : jOK Γ cX2_meals 3 RX2 (some .int) { frames := 1, cells := 0, slots := 0, locals := 23 }) {Q : State → Prop} (rec : Int32 → Int32 → jM → Option (Int32 × Int32)) (ih : ∀ (x1 : Int32) (x2 : Int32) (M : jM) (e1 : Int32) (e2 : Int32), rec x1 x2 M = some (e1, e2) → jJ Γ GX RX 35 [(0, .ref (jad Γ 29)), (1, .int e1), (2, .int e2)] [] M Q → jJ Γ GX RX 4 [(0, .ref (jad Γ 29)), (1, .int x1), (2, .int x2)] [] M Q) (x1 : Int32) (x2 : Int32) (M : jM) (e1 : Int32) (e2 : Int32) (h : f_X2_meals_L4_b rec x1 x2 M = some (e1, e2)) (hK : jJ Γ GX RX 35 [(0, .ref (jad Γ 29)), (1, .int e1), (2, .int e2)] [] M Q) : jJ Γ GX RX 4 [(0, .ref (jad Γ 29)), (1, .int x1), (2, .int x2)] [] M Q := by
  unfold f_X2_meals_L4_b at h
  refine j_iload_n 2 (pc' := 5) hC dX2_meals_4 rfl rfl ?_
  refine j_aload_n 0 (pc' := 6) hC dX2_meals_5 rfl rfl ?_
  refine j_geti' (pc' := 9) hC dX2_meals_6 rfl fi_X2_9 gx29 ?_
  refine j_icmp_ge (tgt := 35) (pc' := 12) hC dX2_meals_9 (by decide) rfl (fun c1 => ?_) (fun c1 => ?_)
  · have h := jit_t c1 h
    obtain ⟨q0, q1⟩ := jinj2 h
    subst q0
    subst q1
    refine j_sub [0, 1, 2] rfl ?_
    exact hK
  · have h := jit_f c1 h
    refine j_iload_n 1 (pc' := 13) hC dX2_meals_12 rfl rfl ?_
    refine j_aload_n 0 (pc' := 14) hC dX2_meals_13 rfl rfl ?_
    refine j_iload_n 2 (pc' := 15) hC dX2_meals_14 rfl rfl ?_
    refine j_iconst (v := 1) (pc' := 16) hC dX2_meals_15 rfl rfl ?_
    obtain ⟨r2, hc3, h⟩ := jb1_s h
    refine j_callVi [.int x2, .int (1 : Int32)] (pc' := 19) hC dX2_meals_16 rfl (t_X2_isOfKind _ _ hc3) gx29 vcl2 cv_X2_82 ⟨⟨Nat.le_of_ble_eq_true rfl, Nat.le_of_ble_eq_true rfl⟩, rfl, Nat.le_of_ble_eq_true rfl⟩ rfl rfl ?_
    obtain ⟨v5, hm7, h⟩ := jlet_s h
    have K6 : jJ Γ GX RX 27 [(0, .ref (jad Γ 29)), (1, .int x1), (2, .int x2)] [.int v5, .int x1] M Q := by
      refine j_iadd (pc' := 28) hC dX2_meals_27 rfl ?_
      obtain ⟨v9, ev9, h⟩ := jlet_s h
      refine j_istore_n (pc' := 29) hC dX2_meals_28 rfl ev9 (by decide) rfl ?_
      obtain ⟨v10, ev10, h⟩ := jlet_s h
      refine j_iinc' 2 (c := 1) (pc' := 32) hC dX2_meals_29 rfl rfl rfl ev10 (by decide) rfl ?_
      refine j_goto (tgt := 4) (pc' := 0) hC dX2_meals_32 (by decide) ?_
      refine j_sub [2, 1, 0] rfl ?_
      exact ih _ _ _ _ _ h hK
    refine j_if_eq (tgt := 26) (pc' := 22) hC dX2_meals_19 (by decide) rfl (fun c8 => ?_) (fun c8 => ?_)
    · have hm7 := jit_t c8 hm7
      refine j_iconst (v := 0) (pc' := 27) hC dX2_meals_26 rfl rfl ?_
      subst hm7
      exact j_sub [0, 1, 2] rfl K6
    · have hm7 := jit_f c8 hm7
      refine j_iconst (v := 1) (pc' := 23) hC dX2_meals_22 rfl rfl ?_
      refine j_goto (tgt := 27) (pc' := 0) hC dX2_meals_23 (by decide) ?_
      subst hm7
      exact j_sub [0, 1, 2] rfl K6
theorem lp_X2_meals_L4 {Γ : jG} (hC : jOK Γ cX2_meals 3 RX2 (some .int) { frames := 1, cells := 0, slots := 0, locals := 23 }) {Q : State → Prop} : ∀ (n : Nat) (x1 : Int32) (x2 : Int32) (M : jM) (e1 : Int32) (e2 : Int32), f_X2_meals_L4 n x1 x2 M = some (e1, e2) → jJ Γ GX RX 35 [(0, .ref (jad Γ 29)), (1, .int e1), (2, .int e2)] [] M Q → jJ Γ GX RX 4 [(0, .ref (jad Γ 29)), (1, .int x1), (2, .int x2)] [] M Q := by
  intro n
  induction n with
  | zero =>
    intro x1 x2 M e1 e2 h hK
    exact jno h
  | succ n ih =>
    intro x1 x2 M e1 e2 h hK
    exact lp_X2_meals_L4_b hC (f_X2_meals_L4 n) ih x1 x2 M e1 e2 h hK
theorem t_X2_meals (l : Launch) (E : jE) {M : jM} {r : Int32} (h : f_X2_meals M = some r) : jCi l yX2_meals cX2_meals 3 (some .int) 1 23 E RX GX (fun a _ => [.ref (a 29)]) M r M := by
  refine jCi_of (own := RX2) (by decide) rfl (fun _ _ => Nat.le_of_ble_eq_true rfl) ?_
  intro Γ hC
  show jJ Γ GX RX 0 [(0, .ref (jad Γ 29))] [] M (jQi Γ RX GX r M)
  unfold f_X2_meals at h
  refine j_iconst (v := 0) (pc' := 1) hC dX2_meals_0 rfl rfl ?_
  refine j_istore_n (pc' := 2) hC dX2_meals_1 rfl rfl (by decide) rfl ?_
  refine j_iconst (v := 0) (pc' := 3) hC dX2_meals_2 rfl rfl ?_
  refine j_istore_n (pc' := 4) hC dX2_meals_3 rfl rfl (by decide) rfl ?_
  refine j_sub [2, 1, 0] rfl ?_
  obtain ⟨v1, v2, hm3, h⟩ := jb2_s h
  refine lp_X2_meals_L4 hC  jfu (0 : Int32) (0 : Int32) M v1 v2 hm3 ?_
  refine j_iload_n 1 (pc' := 36) hC dX2_meals_35 rfl rfl ?_
  have q8 := jinj1 h
  subst q8
  exact j_iret hC dX2_meals_36
theorem lp_X4_presenta_L4_b {Γ : jG} (hC : jOK Γ cX4_present 3 RX4 (some .int) { frames := 1, cells := 0, slots := 0, locals := 21 }) {Q : State → Prop} (rec : Int32 → Int32 → jM → Option (Int32 × Int32)) (ih : ∀ (x1 : Int32) (x2 : Int32) (M : jM) (e1 : Int32) (e2 : Int32), rec x1 x2 M = some (e1, e2) → jJ Γ GX RX 35 [(0, .ref (jad Γ 1)), (1, .int e1), (2, .int e2)] [] M Q → jJ Γ GX RX 4 [(0, .ref (jad Γ 1)), (1, .int x1), (2, .int x2)] [] M Q) (x1 : Int32) (x2 : Int32) (M : jM) (e1 : Int32) (e2 : Int32) (h : f_X4_presenta_L4_b rec x1 x2 M = some (e1, e2)) (hK : jJ Γ GX RX 35 [(0, .ref (jad Γ 1)), (1, .int e1), (2, .int e2)] [] M Q) : jJ Γ GX RX 4 [(0, .ref (jad Γ 1)), (1, .int x1), (2, .int x2)] [] M Q := by
  unfold f_X4_presenta_L4_b at h
  refine j_iload_n 2 (pc' := 5) hC dX4_present_4 rfl rfl ?_
  refine j_aload_n 0 (pc' := 6) hC dX4_present_5 rfl rfl ?_
  refine j_getr' (o2 := 2) (pc' := 9) hC dX4_present_6 rfl fi_X4_9 gx1 rfl ?_
  refine j_alen0 (v := (6 : Int32)) (pc' := 10) hC dX4_present_9 rfl gx2 rfl ?_
  refine j_icmp_ge (tgt := 35) (pc' := 13) hC dX4_present_10 (by decide) rfl (fun c1 => ?_) (fun c1 => ?_)
  · have h := jit_t c1 h
    obtain ⟨q0, q1⟩ := jinj2 h
    subst q0
    subst q1
    refine j_sub [0, 1, 2] rfl ?_
    exact hK
  · have h := jit_f c1 h
    refine j_iload_n 1 (pc' := 14) hC dX4_present_13 rfl rfl ?_
    refine j_aload_n 0 (pc' := 15) hC dX4_present_14 rfl rfl ?_
    refine j_iload_n 2 (pc' := 16) hC dX4_present_15 rfl rfl ?_
    obtain ⟨r2, hc3, h⟩ := jb1_s h
    refine j_callVi [.int x2] (pc' := 19) hC dX4_present_16 rfl (t_X4_isTherea _ _ hc3) gx1 vcl4 cv_X4_26 ⟨⟨Nat.le_of_ble_eq_true rfl, Nat.le_of_ble_eq_true rfl⟩, rfl, Nat.le_of_ble_eq_true rfl⟩ rfl rfl ?_
    obtain ⟨v5, hm7, h⟩ := jlet_s h
    have K6 : jJ Γ GX RX 27 [(0, .ref (jad Γ 1)), (1, .int x1), (2, .int x2)] [.int v5, .int x1] M Q := by
      refine j_iadd (pc' := 28) hC dX4_present_27 rfl ?_
      obtain ⟨v9, ev9, h⟩ := jlet_s h
      refine j_istore_n (pc' := 29) hC dX4_present_28 rfl ev9 (by decide) rfl ?_
      obtain ⟨v10, ev10, h⟩ := jlet_s h
      refine j_iinc' 2 (c := 1) (pc' := 32) hC dX4_present_29 rfl rfl rfl ev10 (by decide) rfl ?_
      refine j_goto (tgt := 4) (pc' := 0) hC dX4_present_32 (by decide) ?_
      refine j_sub [2, 1, 0] rfl ?_
      exact ih _ _ _ _ _ h hK
    refine j_if_eq (tgt := 26) (pc' := 22) hC dX4_present_19 (by decide) rfl (fun c8 => ?_) (fun c8 => ?_)
    · have hm7 := jit_t c8 hm7
      refine j_iconst (v := 0) (pc' := 27) hC dX4_present_26 rfl rfl ?_
      subst hm7
      exact j_sub [0, 1, 2] rfl K6
    · have hm7 := jit_f c8 hm7
      refine j_iconst (v := 1) (pc' := 23) hC dX4_present_22 rfl rfl ?_
      refine j_goto (tgt := 27) (pc' := 0) hC dX4_present_23 (by decide) ?_
      subst hm7
      exact j_sub [0, 1, 2] rfl K6
theorem lp_X4_presenta_L4 {Γ : jG} (hC : jOK Γ cX4_present 3 RX4 (some .int) { frames := 1, cells := 0, slots := 0, locals := 21 }) {Q : State → Prop} : ∀ (n : Nat) (x1 : Int32) (x2 : Int32) (M : jM) (e1 : Int32) (e2 : Int32), f_X4_presenta_L4 n x1 x2 M = some (e1, e2) → jJ Γ GX RX 35 [(0, .ref (jad Γ 1)), (1, .int e1), (2, .int e2)] [] M Q → jJ Γ GX RX 4 [(0, .ref (jad Γ 1)), (1, .int x1), (2, .int x2)] [] M Q := by
  intro n
  induction n with
  | zero =>
    intro x1 x2 M e1 e2 h hK
    exact jno h
  | succ n ih =>
    intro x1 x2 M e1 e2 h hK
    exact lp_X4_presenta_L4_b hC (f_X4_presenta_L4 n) ih x1 x2 M e1 e2 h hK
theorem t_X4_presenta (l : Launch) (E : jE) {M : jM} {r : Int32} (h : f_X4_presenta M = some r) : jCi l yX4_present cX4_present 3 (some .int) 1 21 E RX GX (fun a _ => [.ref (a 1)]) M r M := by
  refine jCi_of (own := RX4) (by decide) rfl (fun _ _ => Nat.le_of_ble_eq_true rfl) ?_
  intro Γ hC
  show jJ Γ GX RX 0 [(0, .ref (jad Γ 1))] [] M (jQi Γ RX GX r M)
  unfold f_X4_presenta at h
  refine j_iconst (v := 0) (pc' := 1) hC dX4_present_0 rfl rfl ?_
  refine j_istore_n (pc' := 2) hC dX4_present_1 rfl rfl (by decide) rfl ?_
  refine j_iconst (v := 0) (pc' := 3) hC dX4_present_2 rfl rfl ?_
  refine j_istore_n (pc' := 4) hC dX4_present_3 rfl rfl (by decide) rfl ?_
  refine j_sub [2, 1, 0] rfl ?_
  obtain ⟨v1, v2, hm3, h⟩ := jb2_s h
  refine lp_X4_presenta_L4 hC  jfu (0 : Int32) (0 : Int32) M v1 v2 hm3 ?_
  refine j_iload_n 1 (pc' := 36) hC dX4_present_35 rfl rfl ?_
  have q8 := jinj1 h
  subst q8
  exact j_iret hC dX4_present_36
theorem lp_X4_presentb_L4_b {Γ : jG} (hC : jOK Γ cX4_present 3 RX4 (some .int) { frames := 1, cells := 0, slots := 0, locals := 21 }) {Q : State → Prop} (rec : Int32 → Int32 → jM → Option (Int32 × Int32)) (ih : ∀ (x1 : Int32) (x2 : Int32) (M : jM) (e1 : Int32) (e2 : Int32), rec x1 x2 M = some (e1, e2) → jJ Γ GX RX 35 [(0, .ref (jad Γ 10)), (1, .int e1), (2, .int e2)] [] M Q → jJ Γ GX RX 4 [(0, .ref (jad Γ 10)), (1, .int x1), (2, .int x2)] [] M Q) (x1 : Int32) (x2 : Int32) (M : jM) (e1 : Int32) (e2 : Int32) (h : f_X4_presentb_L4_b rec x1 x2 M = some (e1, e2)) (hK : jJ Γ GX RX 35 [(0, .ref (jad Γ 10)), (1, .int e1), (2, .int e2)] [] M Q) : jJ Γ GX RX 4 [(0, .ref (jad Γ 10)), (1, .int x1), (2, .int x2)] [] M Q := by
  unfold f_X4_presentb_L4_b at h
  refine j_iload_n 2 (pc' := 5) hC dX4_present_4 rfl rfl ?_
  refine j_aload_n 0 (pc' := 6) hC dX4_present_5 rfl rfl ?_
  refine j_getr' (o2 := 11) (pc' := 9) hC dX4_present_6 rfl fi_X4_9 gx10 rfl ?_
  refine j_alen0 (v := (4 : Int32)) (pc' := 10) hC dX4_present_9 rfl gx11 rfl ?_
  refine j_icmp_ge (tgt := 35) (pc' := 13) hC dX4_present_10 (by decide) rfl (fun c1 => ?_) (fun c1 => ?_)
  · have h := jit_t c1 h
    obtain ⟨q0, q1⟩ := jinj2 h
    subst q0
    subst q1
    refine j_sub [0, 1, 2] rfl ?_
    exact hK
  · have h := jit_f c1 h
    refine j_iload_n 1 (pc' := 14) hC dX4_present_13 rfl rfl ?_
    refine j_aload_n 0 (pc' := 15) hC dX4_present_14 rfl rfl ?_
    refine j_iload_n 2 (pc' := 16) hC dX4_present_15 rfl rfl ?_
    obtain ⟨r2, hc3, h⟩ := jb1_s h
    refine j_callVi [.int x2] (pc' := 19) hC dX4_present_16 rfl (t_X4_isThereb _ _ hc3) gx10 vcl4 cv_X4_26 ⟨⟨Nat.le_of_ble_eq_true rfl, Nat.le_of_ble_eq_true rfl⟩, rfl, Nat.le_of_ble_eq_true rfl⟩ rfl rfl ?_
    obtain ⟨v5, hm7, h⟩ := jlet_s h
    have K6 : jJ Γ GX RX 27 [(0, .ref (jad Γ 10)), (1, .int x1), (2, .int x2)] [.int v5, .int x1] M Q := by
      refine j_iadd (pc' := 28) hC dX4_present_27 rfl ?_
      obtain ⟨v9, ev9, h⟩ := jlet_s h
      refine j_istore_n (pc' := 29) hC dX4_present_28 rfl ev9 (by decide) rfl ?_
      obtain ⟨v10, ev10, h⟩ := jlet_s h
      refine j_iinc' 2 (c := 1) (pc' := 32) hC dX4_present_29 rfl rfl rfl ev10 (by decide) rfl ?_
      refine j_goto (tgt := 4) (pc' := 0) hC dX4_present_32 (by decide) ?_
      refine j_sub [2, 1, 0] rfl ?_
      exact ih _ _ _ _ _ h hK
    refine j_if_eq (tgt := 26) (pc' := 22) hC dX4_present_19 (by decide) rfl (fun c8 => ?_) (fun c8 => ?_)
    · have hm7 := jit_t c8 hm7
      refine j_iconst (v := 0) (pc' := 27) hC dX4_present_26 rfl rfl ?_
      subst hm7
      exact j_sub [0, 1, 2] rfl K6
    · have hm7 := jit_f c8 hm7
      refine j_iconst (v := 1) (pc' := 23) hC dX4_present_22 rfl rfl ?_
      refine j_goto (tgt := 27) (pc' := 0) hC dX4_present_23 (by decide) ?_
      subst hm7
      exact j_sub [0, 1, 2] rfl K6
theorem lp_X4_presentb_L4 {Γ : jG} (hC : jOK Γ cX4_present 3 RX4 (some .int) { frames := 1, cells := 0, slots := 0, locals := 21 }) {Q : State → Prop} : ∀ (n : Nat) (x1 : Int32) (x2 : Int32) (M : jM) (e1 : Int32) (e2 : Int32), f_X4_presentb_L4 n x1 x2 M = some (e1, e2) → jJ Γ GX RX 35 [(0, .ref (jad Γ 10)), (1, .int e1), (2, .int e2)] [] M Q → jJ Γ GX RX 4 [(0, .ref (jad Γ 10)), (1, .int x1), (2, .int x2)] [] M Q := by
  intro n
  induction n with
  | zero =>
    intro x1 x2 M e1 e2 h hK
    exact jno h
  | succ n ih =>
    intro x1 x2 M e1 e2 h hK
    exact lp_X4_presentb_L4_b hC (f_X4_presentb_L4 n) ih x1 x2 M e1 e2 h hK
theorem t_X4_presentb (l : Launch) (E : jE) {M : jM} {r : Int32} (h : f_X4_presentb M = some r) : jCi l yX4_present cX4_present 3 (some .int) 1 21 E RX GX (fun a _ => [.ref (a 10)]) M r M := by
  refine jCi_of (own := RX4) (by decide) rfl (fun _ _ => Nat.le_of_ble_eq_true rfl) ?_
  intro Γ hC
  show jJ Γ GX RX 0 [(0, .ref (jad Γ 10))] [] M (jQi Γ RX GX r M)
  unfold f_X4_presentb at h
  refine j_iconst (v := 0) (pc' := 1) hC dX4_present_0 rfl rfl ?_
  refine j_istore_n (pc' := 2) hC dX4_present_1 rfl rfl (by decide) rfl ?_
  refine j_iconst (v := 0) (pc' := 3) hC dX4_present_2 rfl rfl ?_
  refine j_istore_n (pc' := 4) hC dX4_present_3 rfl rfl (by decide) rfl ?_
  refine j_sub [2, 1, 0] rfl ?_
  obtain ⟨v1, v2, hm3, h⟩ := jb2_s h
  refine lp_X4_presentb_L4 hC  jfu (0 : Int32) (0 : Int32) M v1 v2 hm3 ?_
  refine j_iload_n 1 (pc' := 36) hC dX4_present_35 rfl rfl ?_
  have q8 := jinj1 h
  subst q8
  exact j_iret hC dX4_present_36
theorem lp_X5_keptHouses_L4_b {Γ : jG} (hC : jOK Γ cX5_keptHouses 3 RX5 (some .int) { frames := 0, cells := 0, slots := 0, locals := 0 }) {Q : State → Prop} (rec : Int32 → Int32 → jM → Option (Int32 × Int32)) (ih : ∀ (x1 : Int32) (x2 : Int32) (M : jM) (e1 : Int32) (e2 : Int32), rec x1 x2 M = some (e1, e2) → jJ Γ GX RX 32 [(0, .ref (jad Γ 0)), (1, .int e1), (2, .int e2)] [] M Q → jJ Γ GX RX 4 [(0, .ref (jad Γ 0)), (1, .int x1), (2, .int x2)] [] M Q) (x1 : Int32) (x2 : Int32) (M : jM) (e1 : Int32) (e2 : Int32) (h : f_X5_keptHouses_L4_b rec x1 x2 M = some (e1, e2)) (hK : jJ Γ GX RX 32 [(0, .ref (jad Γ 0)), (1, .int e1), (2, .int e2)] [] M Q) : jJ Γ GX RX 4 [(0, .ref (jad Γ 0)), (1, .int x1), (2, .int x2)] [] M Q := by
  unfold f_X5_keptHouses_L4_b at h
  refine j_iload_n 2 (pc' := 5) hC dX5_keptHouses_4 rfl rfl ?_
  refine j_iconst (v := 3) (pc' := 6) hC dX5_keptHouses_5 rfl rfl ?_
  refine j_icmp_ge (tgt := 32) (pc' := 9) hC dX5_keptHouses_6 (by decide) rfl (fun c1 => ?_) (fun c1 => ?_)
  · have h := jit_t c1 h
    obtain ⟨q0, q1⟩ := jinj2 h
    subst q0
    subst q1
    refine j_sub [0, 1, 2] rfl ?_
    exact hK
  · have h := jit_f c1 h
    refine j_iload_n 1 (pc' := 10) hC dX5_keptHouses_9 rfl rfl ?_
    refine j_aload_n 0 (pc' := 11) hC dX5_keptHouses_10 rfl rfl ?_
    refine j_getr' (o2 := 64) (pc' := 14) hC dX5_keptHouses_11 rfl fi_X5_48 gx0 rfl ?_
    refine j_iload_n 2 (pc' := 15) hC dX5_keptHouses_14 rfl rfl ?_
    obtain ⟨g2, h⟩ := jg_s h
    refine j_zald (pc' := 16) hC dX5_keptHouses_15 rfl gx64 g2 ?_
    obtain ⟨v4, hm6, h⟩ := jlet_s h
    have K5 : jJ Γ GX RX 24 [(0, .ref (jad Γ 0)), (1, .int x1), (2, .int x2)] [.int v4, .int x1] M Q := by
      refine j_iadd (pc' := 25) hC dX5_keptHouses_24 rfl ?_
      obtain ⟨v8, ev8, h⟩ := jlet_s h
      refine j_istore_n (pc' := 26) hC dX5_keptHouses_25 rfl ev8 (by decide) rfl ?_
      obtain ⟨v9, ev9, h⟩ := jlet_s h
      refine j_iinc' 2 (c := 1) (pc' := 29) hC dX5_keptHouses_26 rfl rfl rfl ev9 (by decide) rfl ?_
      refine j_goto (tgt := 4) (pc' := 0) hC dX5_keptHouses_29 (by decide) ?_
      refine j_sub [2, 1, 0] rfl ?_
      exact ih _ _ _ _ _ h hK
    refine j_if_eq (tgt := 23) (pc' := 19) hC dX5_keptHouses_16 (by decide) rfl (fun c7 => ?_) (fun c7 => ?_)
    · have hm6 := jit_t c7 hm6
      refine j_iconst (v := 0) (pc' := 24) hC dX5_keptHouses_23 rfl rfl ?_
      subst hm6
      exact j_sub [0, 1, 2] rfl K5
    · have hm6 := jit_f c7 hm6
      refine j_iconst (v := 1) (pc' := 20) hC dX5_keptHouses_19 rfl rfl ?_
      refine j_goto (tgt := 24) (pc' := 0) hC dX5_keptHouses_20 (by decide) ?_
      subst hm6
      exact j_sub [0, 1, 2] rfl K5
theorem lp_X5_keptHouses_L4 {Γ : jG} (hC : jOK Γ cX5_keptHouses 3 RX5 (some .int) { frames := 0, cells := 0, slots := 0, locals := 0 }) {Q : State → Prop} : ∀ (n : Nat) (x1 : Int32) (x2 : Int32) (M : jM) (e1 : Int32) (e2 : Int32), f_X5_keptHouses_L4 n x1 x2 M = some (e1, e2) → jJ Γ GX RX 32 [(0, .ref (jad Γ 0)), (1, .int e1), (2, .int e2)] [] M Q → jJ Γ GX RX 4 [(0, .ref (jad Γ 0)), (1, .int x1), (2, .int x2)] [] M Q := by
  intro n
  induction n with
  | zero =>
    intro x1 x2 M e1 e2 h hK
    exact jno h
  | succ n ih =>
    intro x1 x2 M e1 e2 h hK
    exact lp_X5_keptHouses_L4_b hC (f_X5_keptHouses_L4 n) ih x1 x2 M e1 e2 h hK
theorem t_X5_keptHouses (l : Launch) (E : jE) {M : jM} {r : Int32} (h : f_X5_keptHouses M = some r) : jCi l yX5_keptHouses cX5_keptHouses 3 (some .int) 0 0 E RX GX (fun a _ => [.ref (a 0)]) M r M := by
  refine jCi_of (own := RX5) (by decide) rfl (fun _ _ => Nat.le_of_ble_eq_true rfl) ?_
  intro Γ hC
  show jJ Γ GX RX 0 [(0, .ref (jad Γ 0))] [] M (jQi Γ RX GX r M)
  unfold f_X5_keptHouses at h
  refine j_iconst (v := 0) (pc' := 1) hC dX5_keptHouses_0 rfl rfl ?_
  refine j_istore_n (pc' := 2) hC dX5_keptHouses_1 rfl rfl (by decide) rfl ?_
  refine j_iconst (v := 0) (pc' := 3) hC dX5_keptHouses_2 rfl rfl ?_
  refine j_istore_n (pc' := 4) hC dX5_keptHouses_3 rfl rfl (by decide) rfl ?_
  refine j_sub [2, 1, 0] rfl ?_
  obtain ⟨v1, v2, hm3, h⟩ := jb2_s h
  refine lp_X5_keptHouses_L4 hC  jfu (0 : Int32) (0 : Int32) M v1 v2 hm3 ?_
  refine j_iload_n 1 (pc' := 33) hC dX5_keptHouses_32 rfl rfl ?_
  have q8 := jinj1 h
  subst q8
  exact j_iret hC dX5_keptHouses_33
theorem t_X5_countOf (l : Launch) (E : jE) {a1 : Int32} {M : jM} {r : Int32} (h : f_X5_countOf a1 M = some r) : jCi l yX5_countOf cX5_countOf 2 (some .int) 2 45 E RX GX (fun a _ => [.ref (a 0), .int a1]) M r M := by
  refine jCi_of (own := RX5) (by decide) rfl (fun _ _ => Nat.le_of_ble_eq_true rfl) ?_
  intro Γ hC
  show jJ Γ GX RX 0 [(0, .ref (jad Γ 0)), (1, .int a1)] [] M (jQi Γ RX GX r M)
  unfold f_X5_countOf at h
  refine j_iload_n 1 (pc' := 1) hC dX5_countOf_0 rfl rfl ?_
  by_cases c13 : a1 = 0
  · have h := jit_t c13 h
    refine j_tab (tgt := 48) (pc' := 0) hC dX5_countOf_1 c13 (by decide) (by decide) rfl (by decide) ?_
    refine j_aload_n 0 (pc' := 49) hC dX5_countOf_48 rfl rfl ?_
    refine j_getr' (o2 := 29) (pc' := 52) hC dX5_countOf_49 rfl fi_X5_31 gx0 rfl ?_
    refine j_geti' (pc' := 55) hC dX5_countOf_52 rfl fi_X5_140 gx29 ?_
    have q8 := jinj1 h
    subst q8
    exact j_iret hC dX5_countOf_55
  · have h := jit_f c13 h
    by_cases c14 : a1 = 1
    · have h := jit_t c14 h
      refine j_tab (tgt := 56) (pc' := 0) hC dX5_countOf_1 c14 (by decide) (by decide) rfl (by decide) ?_
      refine j_aload_n 0 (pc' := 57) hC dX5_countOf_56 rfl rfl ?_
      refine j_getr' (o2 := 29) (pc' := 60) hC dX5_countOf_57 rfl fi_X5_31 gx0 rfl ?_
      refine j_geti' (pc' := 63) hC dX5_countOf_60 rfl fi_X5_228 gx29 ?_
      have q8 := jinj1 h
      subst q8
      exact j_iret hC dX5_countOf_63
    · have h := jit_f c14 h
      by_cases c15 : a1 = 2
      · have h := jit_t c15 h
        refine j_tab (tgt := 64) (pc' := 0) hC dX5_countOf_1 c15 (by decide) (by decide) rfl (by decide) ?_
        refine j_aload_n 0 (pc' := 65) hC dX5_countOf_64 rfl rfl ?_
        refine j_getr' (o2 := 39) (pc' := 68) hC dX5_countOf_65 rfl fi_X5_40 gx0 rfl ?_
        refine j_geti' (pc' := 71) hC dX5_countOf_68 rfl fi_X5_187 gx39 ?_
        have q8 := jinj1 h
        subst q8
        exact j_iret hC dX5_countOf_71
      · have h := jit_f c15 h
        by_cases c16 : a1 = 3
        · have h := jit_t c16 h
          refine j_tab (tgt := 72) (pc' := 0) hC dX5_countOf_1 c16 (by decide) (by decide) rfl (by decide) ?_
          refine j_aload_n 0 (pc' := 73) hC dX5_countOf_72 rfl rfl ?_
          refine j_getr' (o2 := 39) (pc' := 76) hC dX5_countOf_73 rfl fi_X5_40 gx0 rfl ?_
          refine j_geti' (pc' := 79) hC dX5_countOf_76 rfl fi_X5_178 gx39 ?_
          obtain ⟨r1, hc2, h⟩ := jb1_s h
          refine j_callSi [.int (gi M 39 10)] (pc' := 82) hC dX5_countOf_79 rfl (t_J6_bitCount_0f7a4 _ _ hc2) cs_X5_173 ⟨⟨Nat.le_of_ble_eq_true rfl, Nat.le_of_ble_eq_true rfl⟩, rfl, Nat.le_of_ble_eq_true rfl⟩ rfl rfl ?_
          have q8 := jinj1 h
          subst q8
          exact j_iret hC dX5_countOf_82
        · have h := jit_f c16 h
          by_cases c17 : a1 = 4
          · have h := jit_t c17 h
            refine j_tab (tgt := 83) (pc' := 0) hC dX5_countOf_1 c17 (by decide) (by decide) rfl (by decide) ?_
            refine j_aload_n 0 (pc' := 84) hC dX5_countOf_83 rfl rfl ?_
            refine j_getr' (o2 := 39) (pc' := 87) hC dX5_countOf_84 rfl fi_X5_40 gx0 rfl ?_
            refine j_geti' (pc' := 90) hC dX5_countOf_87 rfl fi_X5_340 gx39 ?_
            obtain ⟨r3, hc4, h⟩ := jb1_s h
            refine j_callSi [.int (gi M 39 8)] (pc' := 93) hC dX5_countOf_90 rfl (t_J6_bitCount_0f7a4 _ _ hc4) cs_X5_173 ⟨⟨Nat.le_of_ble_eq_true rfl, Nat.le_of_ble_eq_true rfl⟩, rfl, Nat.le_of_ble_eq_true rfl⟩ rfl rfl ?_
            have q8 := jinj1 h
            subst q8
            exact j_iret hC dX5_countOf_93
          · have h := jit_f c17 h
            by_cases c18 : a1 = 5
            · have h := jit_t c18 h
              refine j_tab (tgt := 94) (pc' := 0) hC dX5_countOf_1 c18 (by decide) (by decide) rfl (by decide) ?_
              refine j_aload_n 0 (pc' := 95) hC dX5_countOf_94 rfl rfl ?_
              refine j_getr' (o2 := 29) (pc' := 98) hC dX5_countOf_95 rfl fi_X5_31 gx0 rfl ?_
              obtain ⟨r5, hc6, h⟩ := jb1_s h
              refine j_callVi [] (pc' := 101) hC dX5_countOf_98 rfl (t_X2_meals _ _ hc6) gx29 vcl2 cv_X5_343 ⟨⟨Nat.le_of_ble_eq_true rfl, Nat.le_of_ble_eq_true rfl⟩, rfl, Nat.le_of_ble_eq_true rfl⟩ rfl rfl ?_
              have q8 := jinj1 h
              subst q8
              exact j_iret hC dX5_countOf_101
            · have h := jit_f c18 h
              by_cases c19 : a1 = 6
              · have h := jit_t c19 h
                refine j_tab (tgt := 102) (pc' := 0) hC dX5_countOf_1 c19 (by decide) (by decide) rfl (by decide) ?_
                refine j_aload_n 0 (pc' := 103) hC dX5_countOf_102 rfl rfl ?_
                refine j_getr' (o2 := 1) (pc' := 106) hC dX5_countOf_103 rfl fi_X5_14 gx0 rfl ?_
                obtain ⟨r7, hc8, h⟩ := jb1_s h
                refine j_callVi [] (pc' := 109) hC dX5_countOf_106 rfl (t_X4_presenta _ _ hc8) gx1 vcl4 cv_X5_346 ⟨⟨Nat.le_of_ble_eq_true rfl, Nat.le_of_ble_eq_true rfl⟩, rfl, Nat.le_of_ble_eq_true rfl⟩ rfl rfl ?_
                have q8 := jinj1 h
                subst q8
                exact j_iret hC dX5_countOf_109
              · have h := jit_f c19 h
                by_cases c20 : a1 = 7
                · have h := jit_t c20 h
                  refine j_tab (tgt := 110) (pc' := 0) hC dX5_countOf_1 c20 (by decide) (by decide) rfl (by decide) ?_
                  refine j_aload_n 0 (pc' := 111) hC dX5_countOf_110 rfl rfl ?_
                  refine j_getr' (o2 := 10) (pc' := 114) hC dX5_countOf_111 rfl fi_X5_18 gx0 rfl ?_
                  obtain ⟨r9, hc10, h⟩ := jb1_s h
                  refine j_callVi [] (pc' := 117) hC dX5_countOf_114 rfl (t_X4_presentb _ _ hc10) gx10 vcl4 cv_X5_346 ⟨⟨Nat.le_of_ble_eq_true rfl, Nat.le_of_ble_eq_true rfl⟩, rfl, Nat.le_of_ble_eq_true rfl⟩ rfl rfl ?_
                  have q8 := jinj1 h
                  subst q8
                  exact j_iret hC dX5_countOf_117
                · have h := jit_f c20 h
                  refine j_tabOut (tgt := 118) (pc' := 0) hC dX5_countOf_1 (by have n0 := jneI (k := 0) rfl c13; have n1 := jneI (k := 1) rfl c14; have n2 := jneI (k := 2) rfl c15; have n3 := jneI (k := 3) rfl c16; have n4 := jneI (k := 4) rfl c17; have n5 := jneI (k := 5) rfl c18; have n6 := jneI (k := 6) rfl c19; have n7 := jneI (k := 7) rfl c20; omega) (by decide) ?_
                  refine j_aload_n 0 (pc' := 119) hC dX5_countOf_118 rfl rfl ?_
                  obtain ⟨r11, hc12, h⟩ := jb1_s h
                  refine j_callVi [] (pc' := 122) hC dX5_countOf_119 rfl (t_X5_keptHouses _ _ hc12) gx0 vcl5 cv_X5_349 ⟨⟨Nat.le_of_ble_eq_true rfl, Nat.le_of_ble_eq_true rfl⟩, rfl, Nat.le_of_ble_eq_true rfl⟩ rfl rfl ?_
                  have q8 := jinj1 h
                  subst q8
                  exact j_iret hC dX5_countOf_122
theorem t_X5_count (l : Launch) (E : jE) {a1 : Int32} {M : jM} {r : Int32} (h : f_X5_count a1 M = some r) : jCi l yX5_count cX5_count 2 (some .int) 3 66 E RX GX (fun a _ => [.ref (a 0), .int a1]) M r M := by
  refine jCi_of (own := RX5) (by decide) rfl (fun _ _ => Nat.le_of_ble_eq_true rfl) ?_
  intro Γ hC
  show jJ Γ GX RX 0 [(0, .ref (jad Γ 0)), (1, .int a1)] [] M (jQi Γ RX GX r M)
  unfold f_X5_count at h
  refine j_iload_n 1 (pc' := 1) hC dX5_count_0 rfl rfl ?_
  refine j_if_lt (tgt := 10) (pc' := 4) hC dX5_count_1 (by decide) rfl (fun c1 => ?_) (fun c1 => ?_)
  · have h := jit_t c1 h
    refine j_iconst (v := -1) (pc' := 11) hC dX5_count_10 rfl rfl ?_
    refine j_goto (tgt := 19) (pc' := 0) hC dX5_count_11 (by decide) ?_
    have q8 := jinj1 h
    subst q8
    exact j_iret hC dX5_count_19
  · have h := jit_f c1 h
    refine j_iload_n 1 (pc' := 5) hC dX5_count_4 rfl rfl ?_
    refine j_bipush (v := 9) (pc' := 7) hC dX5_count_5 rfl rfl ?_
    refine j_icmp_lt (tgt := 14) (pc' := 10) hC dX5_count_7 (by decide) rfl (fun c2 => ?_) (fun c2 => ?_)
    · have h := jit_t c2 h
      refine j_aload_n 0 (pc' := 15) hC dX5_count_14 rfl rfl ?_
      refine j_iload_n 1 (pc' := 16) hC dX5_count_15 rfl rfl ?_
      obtain ⟨r3, hc4, h⟩ := jb1_s h
      refine j_callVi [.int a1] (pc' := 19) hC dX5_count_16 rfl (t_X5_countOf _ _ hc4) gx0 vcl5 cv_X5_311 ⟨⟨Nat.le_of_ble_eq_true rfl, Nat.le_of_ble_eq_true rfl⟩, rfl, Nat.le_of_ble_eq_true rfl⟩ rfl rfl ?_
      have q8 := jinj1 h
      subst q8
      exact j_iret hC dX5_count_19
    · have h := jit_f c2 h
      refine j_iconst (v := -1) (pc' := 11) hC dX5_count_10 rfl rfl ?_
      refine j_goto (tgt := 19) (pc' := 0) hC dX5_count_11 (by decide) ?_
      have q8 := jinj1 h
      subst q8
      exact j_iret hC dX5_count_19
theorem t_X5_finding (l : Launch) (E : jE) {M : jM} {r : Int32} (h : f_X5_finding M = some r) : jCi l yX5_finding cX5_finding 1 (some .int) 0 0 E RX GX (fun a _ => [.ref (a 0)]) M r M := by
  refine jCi_of (own := RX5) (by decide) rfl (fun _ _ => Nat.le_of_ble_eq_true rfl) ?_
  intro Γ hC
  show jJ Γ GX RX 0 [(0, .ref (jad Γ 0))] [] M (jQi Γ RX GX r M)
  unfold f_X5_finding at h
  refine j_aload_n 0 (pc' := 1) hC dX5_finding_0 rfl rfl ?_
  refine j_geti' (pc' := 4) hC dX5_finding_1 rfl fi_X5_63 gx0 ?_
  have q8 := jinj1 h
  subst q8
  exact j_iret hC dX5_finding_4
theorem t_X5_findings (l : Launch) (E : jE) {a1 : Int32} {M : jM} {r : Int32} (h : f_X5_findings a1 M = some r) : jCi l yX5_findings cX5_findings 2 (some .int) 0 0 E RX GX (fun a _ => [.ref (a 0), .int a1]) M r M := by
  refine jCi_of (own := RX5) (by decide) rfl (fun _ _ => Nat.le_of_ble_eq_true rfl) ?_
  intro Γ hC
  show jJ Γ GX RX 0 [(0, .ref (jad Γ 0)), (1, .int a1)] [] M (jQi Γ RX GX r M)
  unfold f_X5_findings at h
  refine j_iload_n 1 (pc' := 1) hC dX5_findings_0 rfl rfl ?_
  refine j_iconst (v := 1) (pc' := 2) hC dX5_findings_1 rfl rfl ?_
  refine j_icmp_lt (tgt := 10) (pc' := 5) hC dX5_findings_2 (by decide) rfl (fun c1 => ?_) (fun c1 => ?_)
  · have h := jit_t c1 h
    refine j_iconst (v := -1) (pc' := 11) hC dX5_findings_10 rfl rfl ?_
    refine j_goto (tgt := 20) (pc' := 0) hC dX5_findings_11 (by decide) ?_
    have q8 := jinj1 h
    subst q8
    exact j_iret hC dX5_findings_20
  · have h := jit_f c1 h
    refine j_iload_n 1 (pc' := 6) hC dX5_findings_5 rfl rfl ?_
    refine j_iconst (v := 5) (pc' := 7) hC dX5_findings_6 rfl rfl ?_
    refine j_icmp_le (tgt := 14) (pc' := 10) hC dX5_findings_7 (by decide) rfl (fun c2 => ?_) (fun c2 => ?_)
    · have h := jit_t c2 h
      refine j_aload_n 0 (pc' := 15) hC dX5_findings_14 rfl rfl ?_
      refine j_getr' (o2 := 68) (pc' := 18) hC dX5_findings_15 rfl fi_X5_59 gx0 rfl ?_
      refine j_iload_n 1 (pc' := 19) hC dX5_findings_18 rfl rfl ?_
      obtain ⟨g3, h⟩ := jg_s h
      refine j_iald (pc' := 20) hC dX5_findings_19 rfl gx68 g3 ?_
      have q8 := jinj1 h
      subst q8
      exact j_iret hC dX5_findings_20
    · have h := jit_f c2 h
      refine j_iconst (v := -1) (pc' := 11) hC dX5_findings_10 rfl rfl ?_
      refine j_goto (tgt := 20) (pc' := 0) hC dX5_findings_11 (by decide) ?_
      have q8 := jinj1 h
      subst q8
      exact j_iret hC dX5_findings_20
theorem lp_X4_digestOnFroma_L33_b {Γ : jG} (hC : jOK Γ cX4_digestOnFrom 7 RX4 (some .long) { frames := 0, cells := 0, slots := 0, locals := 0 }) {Q : State → Prop} (x1 : Int64) (rec : Int64 → Int32 → Int32 → jM → Option (Int64 × Int32)) (ih : ∀ (x3 : Int64) (x5 : Int32) (x6 : Int32) (M : jM) (e3 : Int64) (e6 : Int32), rec x3 x5 x6 M = some (e3, e6) → jJ Γ GX RX 69 [(0, .ref (jad Γ 1)), (1, .long x1), (3, .long e3), (5, .int x5), (6, .int e6)] [] M Q → jJ Γ GX RX 33 [(0, .ref (jad Γ 1)), (1, .long x1), (3, .long x3), (5, .int x5), (6, .int x6)] [] M Q) (x3 : Int64) (x5 : Int32) (x6 : Int32) (M : jM) (e3 : Int64) (e6 : Int32) (h : f_X4_digestOnFroma_L33_b rec x3 x5 x6 M = some (e3, e6)) (hK : jJ Γ GX RX 69 [(0, .ref (jad Γ 1)), (1, .long x1), (3, .long e3), (5, .int x5), (6, .int e6)] [] M Q) : jJ Γ GX RX 33 [(0, .ref (jad Γ 1)), (1, .long x1), (3, .long x3), (5, .int x5), (6, .int x6)] [] M Q := by
  unfold f_X4_digestOnFroma_L33_b at h
  refine j_iload 4 (pc' := 35) hC dX4_digestOnFrom_33 rfl rfl ?_
  refine j_aload_n 0 (pc' := 36) hC dX4_digestOnFrom_35 rfl rfl ?_
  refine j_getr' (o2 := 2) (pc' := 39) hC dX4_digestOnFrom_36 rfl fi_X4_9 gx1 rfl ?_
  refine j_iload 3 (pc' := 41) hC dX4_digestOnFrom_39 rfl rfl ?_
  obtain ⟨g1, h⟩ := jg_s h
  refine j_iald (pc' := 42) hC dX4_digestOnFrom_41 rfl gx2 g1 ?_
  refine j_icmp_ge (tgt := 69) (pc' := 45) hC dX4_digestOnFrom_42 (by decide) rfl (fun c2 => ?_) (fun c2 => ?_)
  · have h := jit_t c2 h
    obtain ⟨q0, q1⟩ := jinj2 h
    subst q0
    subst q1
    refine j_sub [0, 1, 2, 3, 4] rfl ?_
    exact hK
  · have h := jit_f c2 h
    refine j_ldc2 (pc' := 48) hC dX4_digestOnFrom_45 rfl ck_X4_30 ?_
    refine j_lload_n 2 (pc' := 49) hC dX4_digestOnFrom_48 rfl rfl ?_
    refine j_lmul (pc' := 50) hC dX4_digestOnFrom_49 rfl ?_
    refine j_aload_n 0 (pc' := 51) hC dX4_digestOnFrom_50 rfl rfl ?_
    refine j_getr' (o2 := 3) (pc' := 54) hC dX4_digestOnFrom_51 rfl fi_X4_17 gx1 rfl ?_
    refine j_iload 3 (pc' := 56) hC dX4_digestOnFrom_54 rfl rfl ?_
    obtain ⟨g3, h⟩ := jg_s h
    refine j_aald4 (o2 := (4 + x5.toNatClampNeg)) (pc' := 57) hC dX4_digestOnFrom_56 rfl gx3 g3 (rxc3 g3) ?_
    refine j_iload 4 (pc' := 59) hC dX4_digestOnFrom_57 rfl rfl ?_
    obtain ⟨g4, h⟩ := jg_s h
    refine j_iald (pc' := 60) hC dX4_digestOnFrom_59 rfl (gxc3 g3) g4 ?_
    refine j_i2l (pc' := 61) hC dX4_digestOnFrom_60 rfl ?_
    refine j_ladd (pc' := 62) hC dX4_digestOnFrom_61 rfl ?_
    obtain ⟨v5, ev5, h⟩ := jlet_s h
    refine j_lstore_n (pc' := 63) hC dX4_digestOnFrom_62 rfl ev5 (by decide) rfl ?_
    obtain ⟨v6, ev6, h⟩ := jlet_s h
    refine j_iinc' 4 (c := 1) (pc' := 66) hC dX4_digestOnFrom_63 rfl rfl rfl ev6 (by decide) rfl ?_
    refine j_goto (tgt := 33) (pc' := 0) hC dX4_digestOnFrom_66 (by decide) ?_
    refine j_sub [2, 3, 1, 4, 0] rfl ?_
    exact ih _ _ _ _ _ _ h hK
theorem lp_X4_digestOnFroma_L33 {Γ : jG} (hC : jOK Γ cX4_digestOnFrom 7 RX4 (some .long) { frames := 0, cells := 0, slots := 0, locals := 0 }) {Q : State → Prop} (x1 : Int64) : ∀ (n : Nat) (x3 : Int64) (x5 : Int32) (x6 : Int32) (M : jM) (e3 : Int64) (e6 : Int32), f_X4_digestOnFroma_L33 n x3 x5 x6 M = some (e3, e6) → jJ Γ GX RX 69 [(0, .ref (jad Γ 1)), (1, .long x1), (3, .long e3), (5, .int x5), (6, .int e6)] [] M Q → jJ Γ GX RX 33 [(0, .ref (jad Γ 1)), (1, .long x1), (3, .long x3), (5, .int x5), (6, .int x6)] [] M Q := by
  intro n
  induction n with
  | zero =>
    intro x3 x5 x6 M e3 e6 h hK
    exact jno h
  | succ n ih =>
    intro x3 x5 x6 M e3 e6 h hK
    exact lp_X4_digestOnFroma_L33_b hC x1 (f_X4_digestOnFroma_L33 n) ih x3 x5 x6 M e3 e6 h hK
theorem lp_X4_digestOnFroma_L5_b {Γ : jG} (hC : jOK Γ cX4_digestOnFrom 7 RX4 (some .long) { frames := 0, cells := 0, slots := 0, locals := 0 }) {Q : State → Prop} (x1 : Int64) (rec : Int64 → Int32 → jM → Option (Int64 × Int32)) (ih : ∀ (x3 : Int64) (x5 : Int32) (M : jM) (e3 : Int64) (e5 : Int32), rec x3 x5 M = some (e3, e5) → jJ Γ GX RX 75 [(0, .ref (jad Γ 1)), (1, .long x1), (3, .long e3), (5, .int e5)] [] M Q → jJ Γ GX RX 5 [(0, .ref (jad Γ 1)), (1, .long x1), (3, .long x3), (5, .int x5)] [] M Q) (x3 : Int64) (x5 : Int32) (M : jM) (e3 : Int64) (e5 : Int32) (h : f_X4_digestOnFroma_L5_b rec x3 x5 M = some (e3, e5)) (hK : jJ Γ GX RX 75 [(0, .ref (jad Γ 1)), (1, .long x1), (3, .long e3), (5, .int e5)] [] M Q) : jJ Γ GX RX 5 [(0, .ref (jad Γ 1)), (1, .long x1), (3, .long x3), (5, .int x5)] [] M Q := by
  unfold f_X4_digestOnFroma_L5_b at h
  refine j_iload 3 (pc' := 7) hC dX4_digestOnFrom_5 rfl rfl ?_
  refine j_aload_n 0 (pc' := 8) hC dX4_digestOnFrom_7 rfl rfl ?_
  refine j_getr' (o2 := 2) (pc' := 11) hC dX4_digestOnFrom_8 rfl fi_X4_9 gx1 rfl ?_
  refine j_alen0 (v := (6 : Int32)) (pc' := 12) hC dX4_digestOnFrom_11 rfl gx2 rfl ?_
  refine j_icmp_ge (tgt := 75) (pc' := 15) hC dX4_digestOnFrom_12 (by decide) rfl (fun c1 => ?_) (fun c1 => ?_)
  · have h := jit_t c1 h
    obtain ⟨q0, q1⟩ := jinj2 h
    subst q0
    subst q1
    refine j_sub [0, 1, 2, 3] rfl ?_
    exact hK
  · have h := jit_f c1 h
    refine j_ldc2 (pc' := 18) hC dX4_digestOnFrom_15 rfl ck_X4_30 ?_
    refine j_lload_n 2 (pc' := 19) hC dX4_digestOnFrom_18 rfl rfl ?_
    refine j_lmul (pc' := 20) hC dX4_digestOnFrom_19 rfl ?_
    refine j_aload_n 0 (pc' := 21) hC dX4_digestOnFrom_20 rfl rfl ?_
    refine j_getr' (o2 := 2) (pc' := 24) hC dX4_digestOnFrom_21 rfl fi_X4_9 gx1 rfl ?_
    refine j_iload 3 (pc' := 26) hC dX4_digestOnFrom_24 rfl rfl ?_
    obtain ⟨g2, h⟩ := jg_s h
    refine j_iald (pc' := 27) hC dX4_digestOnFrom_26 rfl gx2 g2 ?_
    refine j_i2l (pc' := 28) hC dX4_digestOnFrom_27 rfl ?_
    refine j_ladd (pc' := 29) hC dX4_digestOnFrom_28 rfl ?_
    obtain ⟨v3, ev3, h⟩ := jlet_s h
    refine j_lstore_n (pc' := 30) hC dX4_digestOnFrom_29 rfl ev3 (by decide) rfl ?_
    refine j_iconst (v := 0) (pc' := 31) hC dX4_digestOnFrom_30 rfl rfl ?_
    refine j_istore (pc' := 33) hC dX4_digestOnFrom_31 rfl rfl (by decide) rfl ?_
    refine j_sub [2, 3, 1, 4, 0] rfl ?_
    obtain ⟨v4, v5, hm6, h⟩ := jb2_s h
    refine lp_X4_digestOnFroma_L33 hC x1 jfu v3 x5 (0 : Int32) M v4 v5 hm6 ?_
    obtain ⟨v7, ev7, h⟩ := jlet_s h
    refine j_iinc' 3 (c := 1) (pc' := 72) hC dX4_digestOnFrom_69 rfl rfl rfl ev7 (by decide) rfl ?_
    refine j_goto (tgt := 5) (pc' := 0) hC dX4_digestOnFrom_72 (by decide) ?_
    refine j_sub [1, 2, 3, 0] rfl ?_
    exact ih _ _ _ _ _ h hK
theorem lp_X4_digestOnFroma_L5 {Γ : jG} (hC : jOK Γ cX4_digestOnFrom 7 RX4 (some .long) { frames := 0, cells := 0, slots := 0, locals := 0 }) {Q : State → Prop} (x1 : Int64) : ∀ (n : Nat) (x3 : Int64) (x5 : Int32) (M : jM) (e3 : Int64) (e5 : Int32), f_X4_digestOnFroma_L5 n x3 x5 M = some (e3, e5) → jJ Γ GX RX 75 [(0, .ref (jad Γ 1)), (1, .long x1), (3, .long e3), (5, .int e5)] [] M Q → jJ Γ GX RX 5 [(0, .ref (jad Γ 1)), (1, .long x1), (3, .long x3), (5, .int x5)] [] M Q := by
  intro n
  induction n with
  | zero =>
    intro x3 x5 M e3 e5 h hK
    exact jno h
  | succ n ih =>
    intro x3 x5 M e3 e5 h hK
    exact lp_X4_digestOnFroma_L5_b hC x1 (f_X4_digestOnFroma_L5 n) ih x3 x5 M e3 e5 h hK
theorem t_X4_digestOnFroma (l : Launch) (E : jE) {a1 : Int64} {M : jM} {r : Int64} (h : f_X4_digestOnFroma a1 M = some r) : jCl l yX4_digestOnFrom cX4_digestOnFrom 7 (some .long) 0 0 E RX GX (fun a _ => [.ref (a 1), .long a1]) M r M := by
  refine jCl_of (own := RX4) (by decide) rfl (fun _ _ => Nat.le_of_ble_eq_true rfl) ?_
  intro Γ hC
  show jJ Γ GX RX 0 [(0, .ref (jad Γ 1)), (1, .long a1)] [] M (jQl Γ RX GX r M)
  unfold f_X4_digestOnFroma at h
  refine j_lload_n 1 (pc' := 1) hC dX4_digestOnFrom_0 rfl rfl ?_
  refine j_lstore_n (pc' := 2) hC dX4_digestOnFrom_1 rfl rfl (by decide) rfl ?_
  refine j_iconst (v := 0) (pc' := 3) hC dX4_digestOnFrom_2 rfl rfl ?_
  refine j_istore (pc' := 5) hC dX4_digestOnFrom_3 rfl rfl (by decide) rfl ?_
  refine j_sub [2, 3, 1, 0] rfl ?_
  obtain ⟨v1, v2, hm3, h⟩ := jb2_s h
  refine lp_X4_digestOnFroma_L5 hC a1 jfu a1 (0 : Int32) M v1 v2 hm3 ?_
  refine j_lload_n 2 (pc' := 76) hC dX4_digestOnFrom_75 rfl rfl ?_
  have q8 := jinj1 h
  subst q8
  exact j_lret hC dX4_digestOnFrom_76
theorem lp_X4_digestOnFromb_L33_b {Γ : jG} (hC : jOK Γ cX4_digestOnFrom 7 RX4 (some .long) { frames := 0, cells := 0, slots := 0, locals := 0 }) {Q : State → Prop} (x1 : Int64) (rec : Int64 → Int32 → Int32 → jM → Option (Int64 × Int32)) (ih : ∀ (x3 : Int64) (x5 : Int32) (x6 : Int32) (M : jM) (e3 : Int64) (e6 : Int32), rec x3 x5 x6 M = some (e3, e6) → jJ Γ GX RX 69 [(0, .ref (jad Γ 10)), (1, .long x1), (3, .long e3), (5, .int x5), (6, .int e6)] [] M Q → jJ Γ GX RX 33 [(0, .ref (jad Γ 10)), (1, .long x1), (3, .long x3), (5, .int x5), (6, .int x6)] [] M Q) (x3 : Int64) (x5 : Int32) (x6 : Int32) (M : jM) (e3 : Int64) (e6 : Int32) (h : f_X4_digestOnFromb_L33_b rec x3 x5 x6 M = some (e3, e6)) (hK : jJ Γ GX RX 69 [(0, .ref (jad Γ 10)), (1, .long x1), (3, .long e3), (5, .int x5), (6, .int e6)] [] M Q) : jJ Γ GX RX 33 [(0, .ref (jad Γ 10)), (1, .long x1), (3, .long x3), (5, .int x5), (6, .int x6)] [] M Q := by
  unfold f_X4_digestOnFromb_L33_b at h
  refine j_iload 4 (pc' := 35) hC dX4_digestOnFrom_33 rfl rfl ?_
  refine j_aload_n 0 (pc' := 36) hC dX4_digestOnFrom_35 rfl rfl ?_
  refine j_getr' (o2 := 11) (pc' := 39) hC dX4_digestOnFrom_36 rfl fi_X4_9 gx10 rfl ?_
  refine j_iload 3 (pc' := 41) hC dX4_digestOnFrom_39 rfl rfl ?_
  obtain ⟨g1, h⟩ := jg_s h
  refine j_iald (pc' := 42) hC dX4_digestOnFrom_41 rfl gx11 g1 ?_
  refine j_icmp_ge (tgt := 69) (pc' := 45) hC dX4_digestOnFrom_42 (by decide) rfl (fun c2 => ?_) (fun c2 => ?_)
  · have h := jit_t c2 h
    obtain ⟨q0, q1⟩ := jinj2 h
    subst q0
    subst q1
    refine j_sub [0, 1, 2, 3, 4] rfl ?_
    exact hK
  · have h := jit_f c2 h
    refine j_ldc2 (pc' := 48) hC dX4_digestOnFrom_45 rfl ck_X4_30 ?_
    refine j_lload_n 2 (pc' := 49) hC dX4_digestOnFrom_48 rfl rfl ?_
    refine j_lmul (pc' := 50) hC dX4_digestOnFrom_49 rfl ?_
    refine j_aload_n 0 (pc' := 51) hC dX4_digestOnFrom_50 rfl rfl ?_
    refine j_getr' (o2 := 12) (pc' := 54) hC dX4_digestOnFrom_51 rfl fi_X4_17 gx10 rfl ?_
    refine j_iload 3 (pc' := 56) hC dX4_digestOnFrom_54 rfl rfl ?_
    obtain ⟨g3, h⟩ := jg_s h
    refine j_aald4 (o2 := (13 + x5.toNatClampNeg)) (pc' := 57) hC dX4_digestOnFrom_56 rfl gx12 g3 (rxc12 g3) ?_
    refine j_iload 4 (pc' := 59) hC dX4_digestOnFrom_57 rfl rfl ?_
    obtain ⟨g4, h⟩ := jg_s h
    refine j_iald (pc' := 60) hC dX4_digestOnFrom_59 rfl (gxc12 g3) g4 ?_
    refine j_i2l (pc' := 61) hC dX4_digestOnFrom_60 rfl ?_
    refine j_ladd (pc' := 62) hC dX4_digestOnFrom_61 rfl ?_
    obtain ⟨v5, ev5, h⟩ := jlet_s h
    refine j_lstore_n (pc' := 63) hC dX4_digestOnFrom_62 rfl ev5 (by decide) rfl ?_
    obtain ⟨v6, ev6, h⟩ := jlet_s h
    refine j_iinc' 4 (c := 1) (pc' := 66) hC dX4_digestOnFrom_63 rfl rfl rfl ev6 (by decide) rfl ?_
    refine j_goto (tgt := 33) (pc' := 0) hC dX4_digestOnFrom_66 (by decide) ?_
    refine j_sub [2, 3, 1, 4, 0] rfl ?_
    exact ih _ _ _ _ _ _ h hK
theorem lp_X4_digestOnFromb_L33 {Γ : jG} (hC : jOK Γ cX4_digestOnFrom 7 RX4 (some .long) { frames := 0, cells := 0, slots := 0, locals := 0 }) {Q : State → Prop} (x1 : Int64) : ∀ (n : Nat) (x3 : Int64) (x5 : Int32) (x6 : Int32) (M : jM) (e3 : Int64) (e6 : Int32), f_X4_digestOnFromb_L33 n x3 x5 x6 M = some (e3, e6) → jJ Γ GX RX 69 [(0, .ref (jad Γ 10)), (1, .long x1), (3, .long e3), (5, .int x5), (6, .int e6)] [] M Q → jJ Γ GX RX 33 [(0, .ref (jad Γ 10)), (1, .long x1), (3, .long x3), (5, .int x5), (6, .int x6)] [] M Q := by
  intro n
  induction n with
  | zero =>
    intro x3 x5 x6 M e3 e6 h hK
    exact jno h
  | succ n ih =>
    intro x3 x5 x6 M e3 e6 h hK
    exact lp_X4_digestOnFromb_L33_b hC x1 (f_X4_digestOnFromb_L33 n) ih x3 x5 x6 M e3 e6 h hK
theorem lp_X4_digestOnFromb_L5_b {Γ : jG} (hC : jOK Γ cX4_digestOnFrom 7 RX4 (some .long) { frames := 0, cells := 0, slots := 0, locals := 0 }) {Q : State → Prop} (x1 : Int64) (rec : Int64 → Int32 → jM → Option (Int64 × Int32)) (ih : ∀ (x3 : Int64) (x5 : Int32) (M : jM) (e3 : Int64) (e5 : Int32), rec x3 x5 M = some (e3, e5) → jJ Γ GX RX 75 [(0, .ref (jad Γ 10)), (1, .long x1), (3, .long e3), (5, .int e5)] [] M Q → jJ Γ GX RX 5 [(0, .ref (jad Γ 10)), (1, .long x1), (3, .long x3), (5, .int x5)] [] M Q) (x3 : Int64) (x5 : Int32) (M : jM) (e3 : Int64) (e5 : Int32) (h : f_X4_digestOnFromb_L5_b rec x3 x5 M = some (e3, e5)) (hK : jJ Γ GX RX 75 [(0, .ref (jad Γ 10)), (1, .long x1), (3, .long e3), (5, .int e5)] [] M Q) : jJ Γ GX RX 5 [(0, .ref (jad Γ 10)), (1, .long x1), (3, .long x3), (5, .int x5)] [] M Q := by
  unfold f_X4_digestOnFromb_L5_b at h
  refine j_iload 3 (pc' := 7) hC dX4_digestOnFrom_5 rfl rfl ?_
  refine j_aload_n 0 (pc' := 8) hC dX4_digestOnFrom_7 rfl rfl ?_
  refine j_getr' (o2 := 11) (pc' := 11) hC dX4_digestOnFrom_8 rfl fi_X4_9 gx10 rfl ?_
  refine j_alen0 (v := (4 : Int32)) (pc' := 12) hC dX4_digestOnFrom_11 rfl gx11 rfl ?_
  refine j_icmp_ge (tgt := 75) (pc' := 15) hC dX4_digestOnFrom_12 (by decide) rfl (fun c1 => ?_) (fun c1 => ?_)
  · have h := jit_t c1 h
    obtain ⟨q0, q1⟩ := jinj2 h
    subst q0
    subst q1
    refine j_sub [0, 1, 2, 3] rfl ?_
    exact hK
  · have h := jit_f c1 h
    refine j_ldc2 (pc' := 18) hC dX4_digestOnFrom_15 rfl ck_X4_30 ?_
    refine j_lload_n 2 (pc' := 19) hC dX4_digestOnFrom_18 rfl rfl ?_
    refine j_lmul (pc' := 20) hC dX4_digestOnFrom_19 rfl ?_
    refine j_aload_n 0 (pc' := 21) hC dX4_digestOnFrom_20 rfl rfl ?_
    refine j_getr' (o2 := 11) (pc' := 24) hC dX4_digestOnFrom_21 rfl fi_X4_9 gx10 rfl ?_
    refine j_iload 3 (pc' := 26) hC dX4_digestOnFrom_24 rfl rfl ?_
    obtain ⟨g2, h⟩ := jg_s h
    refine j_iald (pc' := 27) hC dX4_digestOnFrom_26 rfl gx11 g2 ?_
    refine j_i2l (pc' := 28) hC dX4_digestOnFrom_27 rfl ?_
    refine j_ladd (pc' := 29) hC dX4_digestOnFrom_28 rfl ?_
    obtain ⟨v3, ev3, h⟩ := jlet_s h
    refine j_lstore_n (pc' := 30) hC dX4_digestOnFrom_29 rfl ev3 (by decide) rfl ?_
    refine j_iconst (v := 0) (pc' := 31) hC dX4_digestOnFrom_30 rfl rfl ?_
    refine j_istore (pc' := 33) hC dX4_digestOnFrom_31 rfl rfl (by decide) rfl ?_
    refine j_sub [2, 3, 1, 4, 0] rfl ?_
    obtain ⟨v4, v5, hm6, h⟩ := jb2_s h
    refine lp_X4_digestOnFromb_L33 hC x1 jfu v3 x5 (0 : Int32) M v4 v5 hm6 ?_
    obtain ⟨v7, ev7, h⟩ := jlet_s h
    refine j_iinc' 3 (c := 1) (pc' := 72) hC dX4_digestOnFrom_69 rfl rfl rfl ev7 (by decide) rfl ?_
    refine j_goto (tgt := 5) (pc' := 0) hC dX4_digestOnFrom_72 (by decide) ?_
    refine j_sub [1, 2, 3, 0] rfl ?_
    exact ih _ _ _ _ _ h hK
theorem lp_X4_digestOnFromb_L5 {Γ : jG} (hC : jOK Γ cX4_digestOnFrom 7 RX4 (some .long) { frames := 0, cells := 0, slots := 0, locals := 0 }) {Q : State → Prop} (x1 : Int64) : ∀ (n : Nat) (x3 : Int64) (x5 : Int32) (M : jM) (e3 : Int64) (e5 : Int32), f_X4_digestOnFromb_L5 n x3 x5 M = some (e3, e5) → jJ Γ GX RX 75 [(0, .ref (jad Γ 10)), (1, .long x1), (3, .long e3), (5, .int e5)] [] M Q → jJ Γ GX RX 5 [(0, .ref (jad Γ 10)), (1, .long x1), (3, .long x3), (5, .int x5)] [] M Q := by
  intro n
  induction n with
  | zero =>
    intro x3 x5 M e3 e5 h hK
    exact jno h
  | succ n ih =>
    intro x3 x5 M e3 e5 h hK
    exact lp_X4_digestOnFromb_L5_b hC x1 (f_X4_digestOnFromb_L5 n) ih x3 x5 M e3 e5 h hK
theorem t_X4_digestOnFromb (l : Launch) (E : jE) {a1 : Int64} {M : jM} {r : Int64} (h : f_X4_digestOnFromb a1 M = some r) : jCl l yX4_digestOnFrom cX4_digestOnFrom 7 (some .long) 0 0 E RX GX (fun a _ => [.ref (a 10), .long a1]) M r M := by
  refine jCl_of (own := RX4) (by decide) rfl (fun _ _ => Nat.le_of_ble_eq_true rfl) ?_
  intro Γ hC
  show jJ Γ GX RX 0 [(0, .ref (jad Γ 10)), (1, .long a1)] [] M (jQl Γ RX GX r M)
  unfold f_X4_digestOnFromb at h
  refine j_lload_n 1 (pc' := 1) hC dX4_digestOnFrom_0 rfl rfl ?_
  refine j_lstore_n (pc' := 2) hC dX4_digestOnFrom_1 rfl rfl (by decide) rfl ?_
  refine j_iconst (v := 0) (pc' := 3) hC dX4_digestOnFrom_2 rfl rfl ?_
  refine j_istore (pc' := 5) hC dX4_digestOnFrom_3 rfl rfl (by decide) rfl ?_
  refine j_sub [2, 3, 1, 0] rfl ?_
  obtain ⟨v1, v2, hm3, h⟩ := jb2_s h
  refine lp_X4_digestOnFromb_L5 hC a1 jfu a1 (0 : Int32) M v1 v2 hm3 ?_
  refine j_lload_n 2 (pc' := 76) hC dX4_digestOnFrom_75 rfl rfl ?_
  have q8 := jinj1 h
  subst q8
  exact j_lret hC dX4_digestOnFrom_76
theorem lp_X5_digest_L6_b {Γ : jG} (hC : jOK Γ cX5_digest 5 RX5 (some .long) { frames := 3, cells := 0, slots := 0, locals := 66 }) {Q : State → Prop} (rec : Int64 → Int32 → jM → Option (Int64 × Int32)) (ih : ∀ (x1 : Int64) (x3 : Int32) (M : jM) (e1 : Int64) (e3 : Int32), rec x1 x3 M = some (e1, e3) → jJ Γ GX RX 31 [(0, .ref (jad Γ 0)), (1, .long e1), (3, .int e3)] [] M Q → jJ Γ GX RX 6 [(0, .ref (jad Γ 0)), (1, .long x1), (3, .int x3)] [] M Q) (x1 : Int64) (x3 : Int32) (M : jM) (e1 : Int64) (e3 : Int32) (h : f_X5_digest_L6_b rec x1 x3 M = some (e1, e3)) (hK : jJ Γ GX RX 31 [(0, .ref (jad Γ 0)), (1, .long e1), (3, .int e3)] [] M Q) : jJ Γ GX RX 6 [(0, .ref (jad Γ 0)), (1, .long x1), (3, .int x3)] [] M Q := by
  unfold f_X5_digest_L6_b at h
  refine j_iload_n 2 (pc' := 7) hC dX5_digest_6 rfl rfl ?_
  refine j_bipush (v := 9) (pc' := 9) hC dX5_digest_7 rfl rfl ?_
  refine j_icmp_ge (tgt := 31) (pc' := 12) hC dX5_digest_9 (by decide) rfl (fun c1 => ?_) (fun c1 => ?_)
  · have h := jit_t c1 h
    obtain ⟨q0, q1⟩ := jinj2 h
    subst q0
    subst q1
    refine j_sub [0, 1, 2] rfl ?_
    exact hK
  · have h := jit_f c1 h
    refine j_ldc2 (pc' := 15) hC dX5_digest_12 rfl ck_X5_316 ?_
    refine j_lload_n 1 (pc' := 16) hC dX5_digest_15 rfl rfl ?_
    refine j_lmul (pc' := 17) hC dX5_digest_16 rfl ?_
    refine j_aload_n 0 (pc' := 18) hC dX5_digest_17 rfl rfl ?_
    refine j_iload_n 2 (pc' := 19) hC dX5_digest_18 rfl rfl ?_
    obtain ⟨r2, hc3, h⟩ := jb1_s h
    refine j_callVi [.int x3] (pc' := 22) hC dX5_digest_19 rfl (t_X5_countOf _ _ hc3) gx0 vcl5 cv_X5_311 ⟨⟨Nat.le_of_ble_eq_true rfl, Nat.le_of_ble_eq_true rfl⟩, rfl, Nat.le_of_ble_eq_true rfl⟩ rfl rfl ?_
    refine j_i2l (pc' := 23) hC dX5_digest_22 rfl ?_
    refine j_ladd (pc' := 24) hC dX5_digest_23 rfl ?_
    obtain ⟨v4, ev4, h⟩ := jlet_s h
    refine j_lstore_n (pc' := 25) hC dX5_digest_24 rfl ev4 (by decide) rfl ?_
    obtain ⟨v5, ev5, h⟩ := jlet_s h
    refine j_iinc' 2 (c := 1) (pc' := 28) hC dX5_digest_25 rfl rfl rfl ev5 (by decide) rfl ?_
    refine j_goto (tgt := 6) (pc' := 0) hC dX5_digest_28 (by decide) ?_
    refine j_sub [2, 1, 0] rfl ?_
    exact ih _ _ _ _ _ h hK
theorem lp_X5_digest_L6 {Γ : jG} (hC : jOK Γ cX5_digest 5 RX5 (some .long) { frames := 3, cells := 0, slots := 0, locals := 66 }) {Q : State → Prop} : ∀ (n : Nat) (x1 : Int64) (x3 : Int32) (M : jM) (e1 : Int64) (e3 : Int32), f_X5_digest_L6 n x1 x3 M = some (e1, e3) → jJ Γ GX RX 31 [(0, .ref (jad Γ 0)), (1, .long e1), (3, .int e3)] [] M Q → jJ Γ GX RX 6 [(0, .ref (jad Γ 0)), (1, .long x1), (3, .int x3)] [] M Q := by
  intro n
  induction n with
  | zero =>
    intro x1 x3 M e1 e3 h hK
    exact jno h
  | succ n ih =>
    intro x1 x3 M e1 e3 h hK
    exact lp_X5_digest_L6_b hC (f_X5_digest_L6 n) ih x1 x3 M e1 e3 h hK
theorem lp_X5_digest_L48_b {Γ : jG} (hC : jOK Γ cX5_digest 5 RX5 (some .long) { frames := 3, cells := 0, slots := 0, locals := 66 }) {Q : State → Prop} (rec : Int64 → Int32 → jM → Option (Int64 × Int32)) (ih : ∀ (x1 : Int64) (x3 : Int32) (M : jM) (e1 : Int64) (e3 : Int32), rec x1 x3 M = some (e1, e3) → jJ Γ GX RX 76 [(0, .ref (jad Γ 0)), (1, .long e1), (3, .int e3)] [] M Q → jJ Γ GX RX 48 [(0, .ref (jad Γ 0)), (1, .long x1), (3, .int x3)] [] M Q) (x1 : Int64) (x3 : Int32) (M : jM) (e1 : Int64) (e3 : Int32) (h : f_X5_digest_L48_b rec x1 x3 M = some (e1, e3)) (hK : jJ Γ GX RX 76 [(0, .ref (jad Γ 0)), (1, .long e1), (3, .int e3)] [] M Q) : jJ Γ GX RX 48 [(0, .ref (jad Γ 0)), (1, .long x1), (3, .int x3)] [] M Q := by
  unfold f_X5_digest_L48_b at h
  refine j_iload_n 2 (pc' := 49) hC dX5_digest_48 rfl rfl ?_
  refine j_iconst (v := 3) (pc' := 50) hC dX5_digest_49 rfl rfl ?_
  refine j_icmp_ge (tgt := 76) (pc' := 53) hC dX5_digest_50 (by decide) rfl (fun c1 => ?_) (fun c1 => ?_)
  · have h := jit_t c1 h
    obtain ⟨q0, q1⟩ := jinj2 h
    subst q0
    subst q1
    refine j_sub [0, 1, 2] rfl ?_
    exact hK
  · have h := jit_f c1 h
    refine j_ldc2 (pc' := 56) hC dX5_digest_53 rfl ck_X5_316 ?_
    refine j_lload_n 1 (pc' := 57) hC dX5_digest_56 rfl rfl ?_
    refine j_lmul (pc' := 58) hC dX5_digest_57 rfl ?_
    refine j_aload_n 0 (pc' := 59) hC dX5_digest_58 rfl rfl ?_
    refine j_getr' (o2 := 39) (pc' := 62) hC dX5_digest_59 rfl fi_X5_40 gx0 rfl ?_
    refine j_getr' (o2 := 40) (pc' := 65) hC dX5_digest_62 rfl fi_X5_190 gx39 rfl ?_
    refine j_iload_n 2 (pc' := 66) hC dX5_digest_65 rfl rfl ?_
    obtain ⟨g2, h⟩ := jg_s h
    refine j_iald (pc' := 67) hC dX5_digest_66 rfl gx40 g2 ?_
    refine j_i2l (pc' := 68) hC dX5_digest_67 rfl ?_
    refine j_ladd (pc' := 69) hC dX5_digest_68 rfl ?_
    obtain ⟨v3, ev3, h⟩ := jlet_s h
    refine j_lstore_n (pc' := 70) hC dX5_digest_69 rfl ev3 (by decide) rfl ?_
    obtain ⟨v4, ev4, h⟩ := jlet_s h
    refine j_iinc' 2 (c := 1) (pc' := 73) hC dX5_digest_70 rfl rfl rfl ev4 (by decide) rfl ?_
    refine j_goto (tgt := 48) (pc' := 0) hC dX5_digest_73 (by decide) ?_
    refine j_sub [2, 1, 0] rfl ?_
    exact ih _ _ _ _ _ h hK
theorem lp_X5_digest_L48 {Γ : jG} (hC : jOK Γ cX5_digest 5 RX5 (some .long) { frames := 3, cells := 0, slots := 0, locals := 66 }) {Q : State → Prop} : ∀ (n : Nat) (x1 : Int64) (x3 : Int32) (M : jM) (e1 : Int64) (e3 : Int32), f_X5_digest_L48 n x1 x3 M = some (e1, e3) → jJ Γ GX RX 76 [(0, .ref (jad Γ 0)), (1, .long e1), (3, .int e3)] [] M Q → jJ Γ GX RX 48 [(0, .ref (jad Γ 0)), (1, .long x1), (3, .int x3)] [] M Q := by
  intro n
  induction n with
  | zero =>
    intro x1 x3 M e1 e3 h hK
    exact jno h
  | succ n ih =>
    intro x1 x3 M e1 e3 h hK
    exact lp_X5_digest_L48_b hC (f_X5_digest_L48 n) ih x1 x3 M e1 e3 h hK
theorem lp_X5_digest_L92_b {Γ : jG} (hC : jOK Γ cX5_digest 5 RX5 (some .long) { frames := 3, cells := 0, slots := 0, locals := 66 }) {Q : State → Prop} (rec : Int64 → Int32 → Int32 → jM → Option (Int64 × Int32)) (ih : ∀ (x1 : Int64) (x3 : Int32) (x4 : Int32) (M : jM) (e1 : Int64) (e4 : Int32), rec x1 x3 x4 M = some (e1, e4) → jJ Γ GX RX 119 [(0, .ref (jad Γ 0)), (1, .long e1), (3, .int x3), (4, .int e4)] [] M Q → jJ Γ GX RX 92 [(0, .ref (jad Γ 0)), (1, .long x1), (3, .int x3), (4, .int x4)] [] M Q) (x1 : Int64) (x3 : Int32) (x4 : Int32) (M : jM) (e1 : Int64) (e4 : Int32) (h : f_X5_digest_L92_b rec x1 x3 x4 M = some (e1, e4)) (hK : jJ Γ GX RX 119 [(0, .ref (jad Γ 0)), (1, .long e1), (3, .int x3), (4, .int e4)] [] M Q) : jJ Γ GX RX 92 [(0, .ref (jad Γ 0)), (1, .long x1), (3, .int x3), (4, .int x4)] [] M Q := by
  unfold f_X5_digest_L92_b at h
  refine j_iload 3 (pc' := 94) hC dX5_digest_92 rfl rfl ?_
  refine j_iconst (v := 5) (pc' := 95) hC dX5_digest_94 rfl rfl ?_
  refine j_icmp_ge (tgt := 119) (pc' := 98) hC dX5_digest_95 (by decide) rfl (fun c1 => ?_) (fun c1 => ?_)
  · have h := jit_t c1 h
    obtain ⟨q0, q1⟩ := jinj2 h
    subst q0
    subst q1
    refine j_sub [0, 1, 2, 3] rfl ?_
    exact hK
  · have h := jit_f c1 h
    refine j_ldc2 (pc' := 101) hC dX5_digest_98 rfl ck_X5_316 ?_
    refine j_lload_n 1 (pc' := 102) hC dX5_digest_101 rfl rfl ?_
    refine j_lmul (pc' := 103) hC dX5_digest_102 rfl ?_
    refine j_aload_n 0 (pc' := 104) hC dX5_digest_103 rfl rfl ?_
    refine j_iload_n 2 (pc' := 105) hC dX5_digest_104 rfl rfl ?_
    refine j_iload 3 (pc' := 107) hC dX5_digest_105 rfl rfl ?_
    obtain ⟨r2, hc3, h⟩ := jb1_s h
    refine j_callVi [.int x3, .int x4] (pc' := 110) hC dX5_digest_107 rfl (t_X5_deedFact _ _ hc3) gx0 vcl5 cv_X5_146 ⟨⟨Nat.le_of_ble_eq_true rfl, Nat.le_of_ble_eq_true rfl⟩, rfl, Nat.le_of_ble_eq_true rfl⟩ rfl rfl ?_
    refine j_i2l (pc' := 111) hC dX5_digest_110 rfl ?_
    refine j_ladd (pc' := 112) hC dX5_digest_111 rfl ?_
    obtain ⟨v4, ev4, h⟩ := jlet_s h
    refine j_lstore_n (pc' := 113) hC dX5_digest_112 rfl ev4 (by decide) rfl ?_
    obtain ⟨v5, ev5, h⟩ := jlet_s h
    refine j_iinc' 3 (c := 1) (pc' := 116) hC dX5_digest_113 rfl rfl rfl ev5 (by decide) rfl ?_
    refine j_goto (tgt := 92) (pc' := 0) hC dX5_digest_116 (by decide) ?_
    refine j_sub [2, 1, 3, 0] rfl ?_
    exact ih _ _ _ _ _ _ h hK
theorem lp_X5_digest_L92 {Γ : jG} (hC : jOK Γ cX5_digest 5 RX5 (some .long) { frames := 3, cells := 0, slots := 0, locals := 66 }) {Q : State → Prop} : ∀ (n : Nat) (x1 : Int64) (x3 : Int32) (x4 : Int32) (M : jM) (e1 : Int64) (e4 : Int32), f_X5_digest_L92 n x1 x3 x4 M = some (e1, e4) → jJ Γ GX RX 119 [(0, .ref (jad Γ 0)), (1, .long e1), (3, .int x3), (4, .int e4)] [] M Q → jJ Γ GX RX 92 [(0, .ref (jad Γ 0)), (1, .long x1), (3, .int x3), (4, .int x4)] [] M Q := by
  intro n
  induction n with
  | zero =>
    intro x1 x3 x4 M e1 e4 h hK
    exact jno h
  | succ n ih =>
    intro x1 x3 x4 M e1 e4 h hK
    exact lp_X5_digest_L92_b hC (f_X5_digest_L92 n) ih x1 x3 x4 M e1 e4 h hK
theorem lp_X5_digest_L78_b {Γ : jG} (hC : jOK Γ cX5_digest 5 RX5 (some .long) { frames := 3, cells := 0, slots := 0, locals := 66 }) {Q : State → Prop} (rec : Int64 → Int32 → jM → Option (Int64 × Int32)) (ih : ∀ (x1 : Int64) (x3 : Int32) (M : jM) (e1 : Int64) (e3 : Int32), rec x1 x3 M = some (e1, e3) → jJ Γ GX RX 125 [(0, .ref (jad Γ 0)), (1, .long e1), (3, .int e3)] [] M Q → jJ Γ GX RX 78 [(0, .ref (jad Γ 0)), (1, .long x1), (3, .int x3)] [] M Q) (x1 : Int64) (x3 : Int32) (M : jM) (e1 : Int64) (e3 : Int32) (h : f_X5_digest_L78_b rec x1 x3 M = some (e1, e3)) (hK : jJ Γ GX RX 125 [(0, .ref (jad Γ 0)), (1, .long e1), (3, .int e3)] [] M Q) : jJ Γ GX RX 78 [(0, .ref (jad Γ 0)), (1, .long x1), (3, .int x3)] [] M Q := by
  unfold f_X5_digest_L78_b at h
  refine j_iload_n 2 (pc' := 79) hC dX5_digest_78 rfl rfl ?_
  refine j_aload_n 0 (pc' := 80) hC dX5_digest_79 rfl rfl ?_
  refine j_getr' (o2 := 29) (pc' := 83) hC dX5_digest_80 rfl fi_X5_31 gx0 rfl ?_
  refine j_geti' (pc' := 86) hC dX5_digest_83 rfl fi_X5_140 gx29 ?_
  refine j_icmp_ge (tgt := 125) (pc' := 89) hC dX5_digest_86 (by decide) rfl (fun c1 => ?_) (fun c1 => ?_)
  · have h := jit_t c1 h
    obtain ⟨q0, q1⟩ := jinj2 h
    subst q0
    subst q1
    refine j_sub [0, 1, 2] rfl ?_
    exact hK
  · have h := jit_f c1 h
    refine j_iconst (v := 0) (pc' := 90) hC dX5_digest_89 rfl rfl ?_
    refine j_istore (pc' := 92) hC dX5_digest_90 rfl rfl (by decide) rfl ?_
    refine j_sub [1, 2, 3, 0] rfl ?_
    obtain ⟨v2, v3, hm4, h⟩ := jb2_s h
    refine lp_X5_digest_L92 hC  jfu x1 x3 (0 : Int32) M v2 v3 hm4 ?_
    obtain ⟨v5, ev5, h⟩ := jlet_s h
    refine j_iinc' 2 (c := 1) (pc' := 122) hC dX5_digest_119 rfl rfl rfl ev5 (by decide) rfl ?_
    refine j_goto (tgt := 78) (pc' := 0) hC dX5_digest_122 (by decide) ?_
    refine j_sub [1, 2, 0] rfl ?_
    exact ih _ _ _ _ _ h hK
theorem lp_X5_digest_L78 {Γ : jG} (hC : jOK Γ cX5_digest 5 RX5 (some .long) { frames := 3, cells := 0, slots := 0, locals := 66 }) {Q : State → Prop} : ∀ (n : Nat) (x1 : Int64) (x3 : Int32) (M : jM) (e1 : Int64) (e3 : Int32), f_X5_digest_L78 n x1 x3 M = some (e1, e3) → jJ Γ GX RX 125 [(0, .ref (jad Γ 0)), (1, .long e1), (3, .int e3)] [] M Q → jJ Γ GX RX 78 [(0, .ref (jad Γ 0)), (1, .long x1), (3, .int x3)] [] M Q := by
  intro n
  induction n with
  | zero =>
    intro x1 x3 M e1 e3 h hK
    exact jno h
  | succ n ih =>
    intro x1 x3 M e1 e3 h hK
    exact lp_X5_digest_L78_b hC (f_X5_digest_L78 n) ih x1 x3 M e1 e3 h hK
theorem lp_X5_digest_L141_b {Γ : jG} (hC : jOK Γ cX5_digest 5 RX5 (some .long) { frames := 3, cells := 0, slots := 0, locals := 66 }) {Q : State → Prop} (rec : Int64 → Int32 → Int32 → jM → Option (Int64 × Int32)) (ih : ∀ (x1 : Int64) (x3 : Int32) (x4 : Int32) (M : jM) (e1 : Int64) (e4 : Int32), rec x1 x3 x4 M = some (e1, e4) → jJ Γ GX RX 168 [(0, .ref (jad Γ 0)), (1, .long e1), (3, .int x3), (4, .int e4)] [] M Q → jJ Γ GX RX 141 [(0, .ref (jad Γ 0)), (1, .long x1), (3, .int x3), (4, .int x4)] [] M Q) (x1 : Int64) (x3 : Int32) (x4 : Int32) (M : jM) (e1 : Int64) (e4 : Int32) (h : f_X5_digest_L141_b rec x1 x3 x4 M = some (e1, e4)) (hK : jJ Γ GX RX 168 [(0, .ref (jad Γ 0)), (1, .long e1), (3, .int x3), (4, .int e4)] [] M Q) : jJ Γ GX RX 141 [(0, .ref (jad Γ 0)), (1, .long x1), (3, .int x3), (4, .int x4)] [] M Q := by
  unfold f_X5_digest_L141_b at h
  refine j_iload 3 (pc' := 143) hC dX5_digest_141 rfl rfl ?_
  refine j_iconst (v := 5) (pc' := 144) hC dX5_digest_143 rfl rfl ?_
  refine j_icmp_ge (tgt := 168) (pc' := 147) hC dX5_digest_144 (by decide) rfl (fun c1 => ?_) (fun c1 => ?_)
  · have h := jit_t c1 h
    obtain ⟨q0, q1⟩ := jinj2 h
    subst q0
    subst q1
    refine j_sub [0, 1, 2, 3] rfl ?_
    exact hK
  · have h := jit_f c1 h
    refine j_ldc2 (pc' := 150) hC dX5_digest_147 rfl ck_X5_316 ?_
    refine j_lload_n 1 (pc' := 151) hC dX5_digest_150 rfl rfl ?_
    refine j_lmul (pc' := 152) hC dX5_digest_151 rfl ?_
    refine j_aload_n 0 (pc' := 153) hC dX5_digest_152 rfl rfl ?_
    refine j_iload_n 2 (pc' := 154) hC dX5_digest_153 rfl rfl ?_
    refine j_iload 3 (pc' := 156) hC dX5_digest_154 rfl rfl ?_
    obtain ⟨r2, hc3, h⟩ := jb1_s h
    refine j_callVi [.int x3, .int x4] (pc' := 159) hC dX5_digest_156 rfl (t_X5_hourFact _ _ hc3) gx0 vcl5 cv_X5_153 ⟨⟨Nat.le_of_ble_eq_true rfl, Nat.le_of_ble_eq_true rfl⟩, rfl, Nat.le_of_ble_eq_true rfl⟩ rfl rfl ?_
    refine j_i2l (pc' := 160) hC dX5_digest_159 rfl ?_
    refine j_ladd (pc' := 161) hC dX5_digest_160 rfl ?_
    obtain ⟨v4, ev4, h⟩ := jlet_s h
    refine j_lstore_n (pc' := 162) hC dX5_digest_161 rfl ev4 (by decide) rfl ?_
    obtain ⟨v5, ev5, h⟩ := jlet_s h
    refine j_iinc' 3 (c := 1) (pc' := 165) hC dX5_digest_162 rfl rfl rfl ev5 (by decide) rfl ?_
    refine j_goto (tgt := 141) (pc' := 0) hC dX5_digest_165 (by decide) ?_
    refine j_sub [2, 1, 3, 0] rfl ?_
    exact ih _ _ _ _ _ _ h hK
theorem lp_X5_digest_L141 {Γ : jG} (hC : jOK Γ cX5_digest 5 RX5 (some .long) { frames := 3, cells := 0, slots := 0, locals := 66 }) {Q : State → Prop} : ∀ (n : Nat) (x1 : Int64) (x3 : Int32) (x4 : Int32) (M : jM) (e1 : Int64) (e4 : Int32), f_X5_digest_L141 n x1 x3 x4 M = some (e1, e4) → jJ Γ GX RX 168 [(0, .ref (jad Γ 0)), (1, .long e1), (3, .int x3), (4, .int e4)] [] M Q → jJ Γ GX RX 141 [(0, .ref (jad Γ 0)), (1, .long x1), (3, .int x3), (4, .int x4)] [] M Q := by
  intro n
  induction n with
  | zero =>
    intro x1 x3 x4 M e1 e4 h hK
    exact jno h
  | succ n ih =>
    intro x1 x3 x4 M e1 e4 h hK
    exact lp_X5_digest_L141_b hC (f_X5_digest_L141 n) ih x1 x3 x4 M e1 e4 h hK
theorem lp_X5_digest_L127_b {Γ : jG} (hC : jOK Γ cX5_digest 5 RX5 (some .long) { frames := 3, cells := 0, slots := 0, locals := 66 }) {Q : State → Prop} (rec : Int64 → Int32 → jM → Option (Int64 × Int32)) (ih : ∀ (x1 : Int64) (x3 : Int32) (M : jM) (e1 : Int64) (e3 : Int32), rec x1 x3 M = some (e1, e3) → jJ Γ GX RX 174 [(0, .ref (jad Γ 0)), (1, .long e1), (3, .int e3)] [] M Q → jJ Γ GX RX 127 [(0, .ref (jad Γ 0)), (1, .long x1), (3, .int x3)] [] M Q) (x1 : Int64) (x3 : Int32) (M : jM) (e1 : Int64) (e3 : Int32) (h : f_X5_digest_L127_b rec x1 x3 M = some (e1, e3)) (hK : jJ Γ GX RX 174 [(0, .ref (jad Γ 0)), (1, .long e1), (3, .int e3)] [] M Q) : jJ Γ GX RX 127 [(0, .ref (jad Γ 0)), (1, .long x1), (3, .int x3)] [] M Q := by
  unfold f_X5_digest_L127_b at h
  refine j_iload_n 2 (pc' := 128) hC dX5_digest_127 rfl rfl ?_
  refine j_aload_n 0 (pc' := 129) hC dX5_digest_128 rfl rfl ?_
  refine j_getr' (o2 := 29) (pc' := 132) hC dX5_digest_129 rfl fi_X5_31 gx0 rfl ?_
  refine j_geti' (pc' := 135) hC dX5_digest_132 rfl fi_X5_228 gx29 ?_
  refine j_icmp_ge (tgt := 174) (pc' := 138) hC dX5_digest_135 (by decide) rfl (fun c1 => ?_) (fun c1 => ?_)
  · have h := jit_t c1 h
    obtain ⟨q0, q1⟩ := jinj2 h
    subst q0
    subst q1
    refine j_sub [0, 1, 2] rfl ?_
    exact hK
  · have h := jit_f c1 h
    refine j_iconst (v := 0) (pc' := 139) hC dX5_digest_138 rfl rfl ?_
    refine j_istore (pc' := 141) hC dX5_digest_139 rfl rfl (by decide) rfl ?_
    refine j_sub [1, 2, 3, 0] rfl ?_
    obtain ⟨v2, v3, hm4, h⟩ := jb2_s h
    refine lp_X5_digest_L141 hC  jfu x1 x3 (0 : Int32) M v2 v3 hm4 ?_
    obtain ⟨v5, ev5, h⟩ := jlet_s h
    refine j_iinc' 2 (c := 1) (pc' := 171) hC dX5_digest_168 rfl rfl rfl ev5 (by decide) rfl ?_
    refine j_goto (tgt := 127) (pc' := 0) hC dX5_digest_171 (by decide) ?_
    refine j_sub [1, 2, 0] rfl ?_
    exact ih _ _ _ _ _ h hK
theorem lp_X5_digest_L127 {Γ : jG} (hC : jOK Γ cX5_digest 5 RX5 (some .long) { frames := 3, cells := 0, slots := 0, locals := 66 }) {Q : State → Prop} : ∀ (n : Nat) (x1 : Int64) (x3 : Int32) (M : jM) (e1 : Int64) (e3 : Int32), f_X5_digest_L127 n x1 x3 M = some (e1, e3) → jJ Γ GX RX 174 [(0, .ref (jad Γ 0)), (1, .long e1), (3, .int e3)] [] M Q → jJ Γ GX RX 127 [(0, .ref (jad Γ 0)), (1, .long x1), (3, .int x3)] [] M Q := by
  intro n
  induction n with
  | zero =>
    intro x1 x3 M e1 e3 h hK
    exact jno h
  | succ n ih =>
    intro x1 x3 M e1 e3 h hK
    exact lp_X5_digest_L127_b hC (f_X5_digest_L127 n) ih x1 x3 M e1 e3 h hK
theorem lp_X5_digest_L176_b {Γ : jG} (hC : jOK Γ cX5_digest 5 RX5 (some .long) { frames := 3, cells := 0, slots := 0, locals := 66 }) {Q : State → Prop} (rec : Int64 → Int32 → jM → Option (Int64 × Int32)) (ih : ∀ (x1 : Int64) (x3 : Int32) (M : jM) (e1 : Int64) (e3 : Int32), rec x1 x3 M = some (e1, e3) → jJ Γ GX RX 217 [(0, .ref (jad Γ 0)), (1, .long e1), (3, .int e3)] [] M Q → jJ Γ GX RX 176 [(0, .ref (jad Γ 0)), (1, .long x1), (3, .int x3)] [] M Q) (x1 : Int64) (x3 : Int32) (M : jM) (e1 : Int64) (e3 : Int32) (h : f_X5_digest_L176_b rec x1 x3 M = some (e1, e3)) (hK : jJ Γ GX RX 217 [(0, .ref (jad Γ 0)), (1, .long e1), (3, .int e3)] [] M Q) : jJ Γ GX RX 176 [(0, .ref (jad Γ 0)), (1, .long x1), (3, .int x3)] [] M Q := by
  unfold f_X5_digest_L176_b at h
  refine j_iload_n 2 (pc' := 177) hC dX5_digest_176 rfl rfl ?_
  refine j_iconst (v := 3) (pc' := 178) hC dX5_digest_177 rfl rfl ?_
  refine j_icmp_ge (tgt := 217) (pc' := 181) hC dX5_digest_178 (by decide) rfl (fun c1 => ?_) (fun c1 => ?_)
  · have h := jit_t c1 h
    obtain ⟨q0, q1⟩ := jinj2 h
    subst q0
    subst q1
    refine j_sub [0, 1, 2] rfl ?_
    exact hK
  · have h := jit_f c1 h
    refine j_ldc2 (pc' := 184) hC dX5_digest_181 rfl ck_X5_316 ?_
    refine j_lload_n 1 (pc' := 185) hC dX5_digest_184 rfl rfl ?_
    refine j_lmul (pc' := 186) hC dX5_digest_185 rfl ?_
    refine j_aload_n 0 (pc' := 187) hC dX5_digest_186 rfl rfl ?_
    refine j_getr' (o2 := 64) (pc' := 190) hC dX5_digest_187 rfl fi_X5_48 gx0 rfl ?_
    refine j_iload_n 2 (pc' := 191) hC dX5_digest_190 rfl rfl ?_
    obtain ⟨g2, h⟩ := jg_s h
    refine j_zald (pc' := 192) hC dX5_digest_191 rfl gx64 g2 ?_
    obtain ⟨v7, hm9, h⟩ := jb1_s h
    have K8 : jJ Γ GX RX 208 [(0, .ref (jad Γ 0)), (1, .long x1), (3, .int x3)] [.int v7, .long ((31 : Int64) * x1)] M Q := by
      refine j_i2l (pc' := 209) hC dX5_digest_208 rfl ?_
      refine j_ladd (pc' := 210) hC dX5_digest_209 rfl ?_
      obtain ⟨v14, ev14, h⟩ := jlet_s h
      refine j_lstore_n (pc' := 211) hC dX5_digest_210 rfl ev14 (by decide) rfl ?_
      obtain ⟨v15, ev15, h⟩ := jlet_s h
      refine j_iinc' 2 (c := 1) (pc' := 214) hC dX5_digest_211 rfl rfl rfl ev15 (by decide) rfl ?_
      refine j_goto (tgt := 176) (pc' := 0) hC dX5_digest_214 (by decide) ?_
      refine j_sub [2, 1, 0] rfl ?_
      exact ih _ _ _ _ _ h hK
    refine j_if_eq (tgt := 207) (pc' := 195) hC dX5_digest_192 (by decide) rfl (fun c10 => ?_) (fun c10 => ?_)
    · have hm9 := jit_t c10 hm9
      refine j_iconst (v := -1) (pc' := 208) hC dX5_digest_207 rfl rfl ?_
      have q8 := jinj1 hm9
      subst q8
      exact j_sub [0, 1, 2] rfl K8
    · have hm9 := jit_f c10 hm9
      refine j_aload_n 0 (pc' := 196) hC dX5_digest_195 rfl rfl ?_
      refine j_getr' (o2 := 45) (pc' := 199) hC dX5_digest_196 rfl fi_X5_44 gx0 rfl ?_
      refine j_iload_n 2 (pc' := 200) hC dX5_digest_199 rfl rfl ?_
      obtain ⟨g11, hm9⟩ := jg_s hm9
      by_cases c12 : x3 = 0
      · have hm9 := jit_t c12 hm9
        refine j_aald3 (o2 := 46) (pc' := 201) hC dX5_digest_200 rfl gx45 g11 (by rw [c12]; rfl) ?_
        refine j_geti' (pc' := 204) hC dX5_digest_201 rfl fi_X5_187 gx46 ?_
        refine j_goto (tgt := 208) (pc' := 0) hC dX5_digest_204 (by decide) ?_
        have q8 := jinj1 hm9
        subst q8
        exact j_sub [0, 1, 2] rfl K8
      · have hm9 := jit_f c12 hm9
        by_cases c13 : x3 = 1
        · have hm9 := jit_t c13 hm9
          refine j_aald3 (o2 := 52) (pc' := 201) hC dX5_digest_200 rfl gx45 g11 (by rw [c13]; rfl) ?_
          refine j_geti' (pc' := 204) hC dX5_digest_201 rfl fi_X5_187 gx52 ?_
          refine j_goto (tgt := 208) (pc' := 0) hC dX5_digest_204 (by decide) ?_
          have q8 := jinj1 hm9
          subst q8
          exact j_sub [0, 1, 2] rfl K8
        · have hm9 := jit_f c13 hm9
          refine j_aald3 (o2 := 58) (pc' := 201) hC dX5_digest_200 rfl gx45 g11 (by rw [jin3 g11 c12 c13]; rfl) ?_
          refine j_geti' (pc' := 204) hC dX5_digest_201 rfl fi_X5_187 gx58 ?_
          refine j_goto (tgt := 208) (pc' := 0) hC dX5_digest_204 (by decide) ?_
          have q8 := jinj1 hm9
          subst q8
          exact j_sub [0, 1, 2] rfl K8
theorem lp_X5_digest_L176 {Γ : jG} (hC : jOK Γ cX5_digest 5 RX5 (some .long) { frames := 3, cells := 0, slots := 0, locals := 66 }) {Q : State → Prop} : ∀ (n : Nat) (x1 : Int64) (x3 : Int32) (M : jM) (e1 : Int64) (e3 : Int32), f_X5_digest_L176 n x1 x3 M = some (e1, e3) → jJ Γ GX RX 217 [(0, .ref (jad Γ 0)), (1, .long e1), (3, .int e3)] [] M Q → jJ Γ GX RX 176 [(0, .ref (jad Γ 0)), (1, .long x1), (3, .int x3)] [] M Q := by
  intro n
  induction n with
  | zero =>
    intro x1 x3 M e1 e3 h hK
    exact jno h
  | succ n ih =>
    intro x1 x3 M e1 e3 h hK
    exact lp_X5_digest_L176_b hC (f_X5_digest_L176 n) ih x1 x3 M e1 e3 h hK
theorem t_X5_digest (l : Launch) (E : jE) {M : jM} {r : Int64} (h : f_X5_digest M = some r) : jCl l yX5_digest cX5_digest 5 (some .long) 3 66 E RX GX (fun a _ => [.ref (a 0)]) M r M := by
  refine jCl_of (own := RX5) (by decide) rfl (fun _ _ => Nat.le_of_ble_eq_true rfl) ?_
  intro Γ hC
  show jJ Γ GX RX 0 [(0, .ref (jad Γ 0))] [] M (jQl Γ RX GX r M)
  unfold f_X5_digest at h
  refine j_ldc2 (pc' := 3) hC dX5_digest_0 rfl ck_X5_314 ?_
  refine j_lstore_n (pc' := 4) hC dX5_digest_3 rfl rfl (by decide) rfl ?_
  refine j_iconst (v := 0) (pc' := 5) hC dX5_digest_4 rfl rfl ?_
  refine j_istore_n (pc' := 6) hC dX5_digest_5 rfl rfl (by decide) rfl ?_
  refine j_sub [2, 1, 0] rfl ?_
  obtain ⟨v1, v2, hm3, h⟩ := jb2_s h
  refine lp_X5_digest_L6 hC  jfu (17 : Int64) (0 : Int32) M v1 v2 hm3 ?_
  refine j_ldc2 (pc' := 34) hC dX5_digest_31 rfl ck_X5_316 ?_
  refine j_lload_n 1 (pc' := 35) hC dX5_digest_34 rfl rfl ?_
  refine j_lmul (pc' := 36) hC dX5_digest_35 rfl ?_
  refine j_aload_n 0 (pc' := 37) hC dX5_digest_36 rfl rfl ?_
  refine j_getr' (o2 := 39) (pc' := 40) hC dX5_digest_37 rfl fi_X5_40 gx0 rfl ?_
  refine j_geti' (pc' := 43) hC dX5_digest_40 rfl fi_X5_200 gx39 ?_
  refine j_i2l (pc' := 44) hC dX5_digest_43 rfl ?_
  refine j_ladd (pc' := 45) hC dX5_digest_44 rfl ?_
  obtain ⟨v4, ev4, h⟩ := jlet_s h
  refine j_lstore_n (pc' := 46) hC dX5_digest_45 rfl ev4 (by decide) rfl ?_
  refine j_iconst (v := 0) (pc' := 47) hC dX5_digest_46 rfl rfl ?_
  refine j_istore_n (pc' := 48) hC dX5_digest_47 rfl rfl (by decide) rfl ?_
  refine j_sub [2, 1, 0] rfl ?_
  obtain ⟨v5, v6, hm7, h⟩ := jb2_s h
  refine lp_X5_digest_L48 hC  jfu v4 (0 : Int32) M v5 v6 hm7 ?_
  refine j_iconst (v := 0) (pc' := 77) hC dX5_digest_76 rfl rfl ?_
  refine j_istore_n (pc' := 78) hC dX5_digest_77 rfl rfl (by decide) rfl ?_
  refine j_sub [1, 2, 0] rfl ?_
  obtain ⟨v8, v9, hm10, h⟩ := jb2_s h
  refine lp_X5_digest_L78 hC  jfu v5 (0 : Int32) M v8 v9 hm10 ?_
  refine j_iconst (v := 0) (pc' := 126) hC dX5_digest_125 rfl rfl ?_
  refine j_istore_n (pc' := 127) hC dX5_digest_126 rfl rfl (by decide) rfl ?_
  refine j_sub [1, 2, 0] rfl ?_
  obtain ⟨v11, v12, hm13, h⟩ := jb2_s h
  refine lp_X5_digest_L127 hC  jfu v8 (0 : Int32) M v11 v12 hm13 ?_
  refine j_iconst (v := 0) (pc' := 175) hC dX5_digest_174 rfl rfl ?_
  refine j_istore_n (pc' := 176) hC dX5_digest_175 rfl rfl (by decide) rfl ?_
  refine j_sub [1, 2, 0] rfl ?_
  obtain ⟨v14, v15, hm16, h⟩ := jb2_s h
  refine lp_X5_digest_L176 hC  jfu v11 (0 : Int32) M v14 v15 hm16 ?_
  refine j_aload_n 0 (pc' := 218) hC dX5_digest_217 rfl rfl ?_
  refine j_getr' (o2 := 10) (pc' := 221) hC dX5_digest_218 rfl fi_X5_18 gx0 rfl ?_
  refine j_aload_n 0 (pc' := 222) hC dX5_digest_221 rfl rfl ?_
  refine j_getr' (o2 := 1) (pc' := 225) hC dX5_digest_222 rfl fi_X5_14 gx0 rfl ?_
  refine j_lload_n 1 (pc' := 226) hC dX5_digest_225 rfl rfl ?_
  obtain ⟨r17, hc18, h⟩ := jb1_s h
  refine j_callVl [.long v14] (pc' := 229) hC dX5_digest_226 rfl (t_X4_digestOnFroma _ _ hc18) gx1 vcl4 cv_X5_318 ⟨⟨Nat.le_of_ble_eq_true rfl, Nat.le_of_ble_eq_true rfl⟩, rfl, Nat.le_of_ble_eq_true rfl⟩ rfl rfl ?_
  obtain ⟨r19, hc20, h⟩ := jb1_s h
  refine j_callVl [.long r17] (pc' := 232) hC dX5_digest_229 rfl (t_X4_digestOnFromb _ _ hc20) gx10 vcl4 cv_X5_318 ⟨⟨Nat.le_of_ble_eq_true rfl, Nat.le_of_ble_eq_true rfl⟩, rfl, Nat.le_of_ble_eq_true rfl⟩ rfl rfl ?_
  have q8 := jinj1 h
  subst q8
  exact j_lret hC dX5_digest_232
theorem t_X6_newRoutes (l : Launch) (E : jE) {M : jM} {M' : jM} (h : f_X6_newRoutes M = some M') : jCv l yX6_newRoutes cX6_newRoutes 1 (none) 0 0 E RM GM (fun a _ => [.ref (a 0)]) M M' := by
  refine jCv_of (own := RX6) (by decide) rfl (fun _ _ => Nat.le_of_ble_eq_true rfl) ?_
  intro Γ hC
  show jJ Γ GM RM 0 [(0, .ref (jad Γ 0))] [] M (jQv Γ RM GM M')
  unfold f_X6_newRoutes at h
  refine j_aload_n 0 (pc' := 1) hC dX6_newRoutes_0 rfl rfl ?_
  refine j_getr' (o2 := 11) (pc' := 4) hC dX6_newRoutes_1 rfl fi_X6_40 gm0 rfl ?_
  refine j_iconst (v := 0) (pc' := 5) hC dX6_newRoutes_4 rfl rfl ?_
  refine j_iconst (v := 1) (pc' := 6) hC dX6_newRoutes_5 rfl rfl ?_
  obtain ⟨M1, eM1, h⟩ := jlet_s h
  refine j_iast' (pc' := 7) hC dX6_newRoutes_6 rfl gm11 (by decide) eM1 ?_
  refine j_aload_n 0 (pc' := 8) hC dX6_newRoutes_7 rfl rfl ?_
  refine j_getr' (o2 := 11) (pc' := 11) hC dX6_newRoutes_8 rfl fi_X6_40 gm0 rfl ?_
  refine j_iconst (v := 1) (pc' := 12) hC dX6_newRoutes_11 rfl rfl ?_
  refine j_iconst (v := 2) (pc' := 13) hC dX6_newRoutes_12 rfl rfl ?_
  obtain ⟨M2, eM2, h⟩ := jlet_s h
  refine j_iast' (pc' := 14) hC dX6_newRoutes_13 rfl gm11 (by decide) eM2 ?_
  refine j_aload_n 0 (pc' := 15) hC dX6_newRoutes_14 rfl rfl ?_
  refine j_getr' (o2 := 11) (pc' := 18) hC dX6_newRoutes_15 rfl fi_X6_40 gm0 rfl ?_
  refine j_iconst (v := 2) (pc' := 19) hC dX6_newRoutes_18 rfl rfl ?_
  refine j_iconst (v := 4) (pc' := 20) hC dX6_newRoutes_19 rfl rfl ?_
  obtain ⟨M3, eM3, h⟩ := jlet_s h
  refine j_iast' (pc' := 21) hC dX6_newRoutes_20 rfl gm11 (by decide) eM3 ?_
  have q8 := jinj1 h
  subst q8
  exact j_vret hC dX6_newRoutes_21
theorem t_X6_find (l : Launch) (E : jE) {a1 : Int32} {M : jM} {r : Int32} {M' : jM} (h : f_X6_find a1 M = some (r, M')) : jCi l yX6_find cX6_find 2 (some .int) 0 0 E RM GM (fun a _ => [.ref (a 0), .int a1]) M r M' := by
  refine jCi_of (own := RX6) (by decide) rfl (fun _ _ => Nat.le_of_ble_eq_true rfl) ?_
  intro Γ hC
  show jJ Γ GM RM 0 [(0, .ref (jad Γ 0)), (1, .int a1)] [] M (jQi Γ RM GM r M')
  unfold f_X6_find at h
  refine j_aload_n 0 (pc' := 1) hC dX6_find_0 rfl rfl ?_
  refine j_iload_n 1 (pc' := 2) hC dX6_find_1 rfl rfl ?_
  obtain ⟨M1, eM1, h⟩ := jlet_s h
  refine j_puti' (pc' := 5) hC dX6_find_2 rfl fp_X6_84 gm0 eM1 ?_
  refine j_aload_n 0 (pc' := 6) hC dX6_find_5 rfl rfl ?_
  refine j_getr' (o2 := 14) (pc' := 9) hC dX6_find_6 rfl fi_X6_53 gm0 rfl ?_
  refine j_iload_n 1 (pc' := 10) hC dX6_find_9 rfl rfl ?_
  refine j_dup2 (pc' := 11) hC dX6_find_10 rfl rfl rfl ?_
  obtain ⟨g2, h⟩ := jg_s h
  refine j_iald (pc' := 12) hC dX6_find_11 rfl gm14 g2 ?_
  refine j_iconst (v := 1) (pc' := 13) hC dX6_find_12 rfl rfl ?_
  refine j_iadd (pc' := 14) hC dX6_find_13 rfl ?_
  obtain ⟨g3, h⟩ := jg_s h
  obtain ⟨M4, eM4, h⟩ := jlet_s h
  refine j_iast' (pc' := 15) hC dX6_find_14 rfl gm14 g3 eM4 ?_
  refine j_bipush (v := -3) (pc' := 17) hC dX6_find_15 rfl rfl ?_
  obtain ⟨q0, q1⟩ := jinj2 h
  subst q0
  subst q1
  exact j_iret hC dX6_find_17
theorem t_X6_answer (l : Launch) (E : jE) {a1 : Int32} {a2 : Int32} {M : jM} {r : Int32} {M' : jM} (h : f_X6_answer a1 a2 M = some (r, M')) : jCi l yX6_answer cX6_answer 3 (some .int) 0 0 E RM GM (fun a _ => [.ref (a 0), .int a1, .int a2]) M r M' := by
  refine jCi_of (own := RX6) (by decide) rfl (fun _ _ => Nat.le_of_ble_eq_true rfl) ?_
  intro Γ hC
  show jJ Γ GM RM 0 [(0, .ref (jad Γ 0)), (1, .int a1), (2, .int a2)] [] M (jQi Γ RM GM r M')
  unfold f_X6_answer at h
  refine j_aload_n 0 (pc' := 1) hC dX6_answer_0 rfl rfl ?_
  refine j_iload_n 2 (pc' := 2) hC dX6_answer_1 rfl rfl ?_
  obtain ⟨M1, eM1, h⟩ := jlet_s h
  refine j_puti' (pc' := 5) hC dX6_answer_2 rfl fp_X6_88 gm0 eM1 ?_
  refine j_iload_n 1 (pc' := 6) hC dX6_answer_5 rfl rfl ?_
  obtain ⟨q0, q1⟩ := jinj2 h
  subst q0
  subst q1
  exact j_iret hC dX6_answer_6
theorem t_X6_in (l : Launch) (E : jE) {a1 : Int64} {a2 : Int64} {a3 : Int64} {M : jM} {r : Int32} (h : f_X6_in a1 a2 a3 M = some r) : jCi l yX6_in cX6_in 6 (some .boolean) 0 0 E RM GM (fun _ _ => [.long a1, .long a2, .long a3]) M r M := by
  refine jCi_of (own := RX6) (by decide) rfl (fun _ _ => Nat.le_of_ble_eq_true rfl) ?_
  intro Γ hC
  show jJ Γ GM RM 0 [(0, .long a1), (2, .long a2), (4, .long a3)] [] M (jQi Γ RM GM r M)
  unfold f_X6_in at h
  refine j_lload_n 0 (pc' := 1) hC dX6_in_0 rfl rfl ?_
  refine j_lload_n 1 (pc' := 2) hC dX6_in_1 rfl rfl ?_
  refine j_lcmp (pc' := 3) hC dX6_in_2 rfl ?_
  refine j_if_lt (tgt := 17) (pc' := 6) hC dX6_in_3 (by decide) rfl (fun c1 => ?_) (fun c1 => ?_)
  · have h := jit_t c1 h
    refine j_iconst (v := 0) (pc' := 18) hC dX6_in_17 rfl rfl ?_
    have q8 := jinj1 h
    subst q8
    exact j_zret hC dX6_in_18 (by decide)
  · have h := jit_f c1 h
    refine j_lload_n 0 (pc' := 7) hC dX6_in_6 rfl rfl ?_
    refine j_lload 2 (pc' := 9) hC dX6_in_7 rfl rfl ?_
    refine j_lcmp (pc' := 10) hC dX6_in_9 rfl ?_
    refine j_if_gt (tgt := 17) (pc' := 13) hC dX6_in_10 (by decide) rfl (fun c2 => ?_) (fun c2 => ?_)
    · have h := jit_t c2 h
      refine j_iconst (v := 0) (pc' := 18) hC dX6_in_17 rfl rfl ?_
      have q8 := jinj1 h
      subst q8
      exact j_zret hC dX6_in_18 (by decide)
    · have h := jit_f c2 h
      refine j_iconst (v := 1) (pc' := 14) hC dX6_in_13 rfl rfl ?_
      refine j_goto (tgt := 18) (pc' := 0) hC dX6_in_14 (by decide) ?_
      have q8 := jinj1 h
      subst q8
      exact j_zret hC dX6_in_18 (by decide)
theorem t_X6_isRow (l : Launch) (E : jE) {a1 : Int32} {M : jM} {r : Int32} (h : f_X6_isRow a1 M = some r) : jCi l yX6_isRow cX6_isRow 1 (some .boolean) 1 25 E RM GM (fun _ _ => [.int a1]) M r M := by
  refine jCi_of (own := RX6) (by decide) rfl (fun _ _ => Nat.le_of_ble_eq_true rfl) ?_
  intro Γ hC
  show jJ Γ GM RM 0 [(0, .int a1)] [] M (jQi Γ RM GM r M)
  unfold f_X6_isRow at h
  refine j_iload_n 0 (pc' := 1) hC dX6_isRow_0 rfl rfl ?_
  refine j_i2l (pc' := 2) hC dX6_isRow_1 rfl ?_
  refine j_lconst (v := 0) (pc' := 3) hC dX6_isRow_2 rfl rfl ?_
  refine j_ldc2 (pc' := 6) hC dX6_isRow_3 rfl ck_X6_91 ?_
  obtain ⟨r1, hc2, h⟩ := jb1_s h
  refine j_callSi [.long a1.toInt64, .long (0 : Int64), .long (5 : Int64)] (pc' := 9) hC dX6_isRow_6 rfl (t_X6_in _ _ hc2) cs_X6_93 ⟨⟨Nat.le_of_ble_eq_true rfl, Nat.le_of_ble_eq_true rfl⟩, rfl, Nat.le_of_ble_eq_true rfl⟩ rfl rfl ?_
  obtain ⟨g3, h⟩ := jg_s h
  have q8 := jinj1 h
  subst q8
  exact j_zret hC dX6_isRow_9 (of_decide_eq_true g3)
theorem lp_X6_row_L34_b {Γ : jG} (hC : jOK Γ cX6_row 4 RX6 (some .int) { frames := 2, cells := 0, slots := 0, locals := 45 }) {Q : State → Prop} (x2 : Int32) (rec : Int32 → Int32 → jM → Option (Int32 × jM)) (ih : ∀ (x1 : Int32) (x3 : Int32) (M : jM) (e3 : Int32) (Me : jM), rec x1 x3 M = some (e3, Me) → jJ Γ GM RM 58 [(0, .ref (jad Γ 0)), (1, .int x1), (2, .int x2), (3, .int e3)] [] Me Q → jJ Γ GM RM 34 [(0, .ref (jad Γ 0)), (1, .int x1), (2, .int x2), (3, .int x3)] [] M Q) (x1 : Int32) (x3 : Int32) (M : jM) (e3 : Int32) (Me : jM) (h : f_X6_row_L34_b rec x1 x3 M = some (e3, Me)) (hK : jJ Γ GM RM 58 [(0, .ref (jad Γ 0)), (1, .int x1), (2, .int x2), (3, .int e3)] [] Me Q) : jJ Γ GM RM 34 [(0, .ref (jad Γ 0)), (1, .int x1), (2, .int x2), (3, .int x3)] [] M Q := by
  unfold f_X6_row_L34_b at h
  refine j_iload_n 3 (pc' := 35) hC dX6_row_34 rfl rfl ?_
  refine j_bipush (v := 40) (pc' := 37) hC dX6_row_35 rfl rfl ?_
  refine j_icmp_ge (tgt := 58) (pc' := 40) hC dX6_row_37 (by decide) rfl (fun c1 => ?_) (fun c1 => ?_)
  · have h := jit_t c1 h
    obtain ⟨q0, q1⟩ := jinj2 h
    subst q0
    subst q1
    refine j_sub [0, 1, 2, 3] rfl ?_
    exact hK
  · have h := jit_f c1 h
    refine j_aload_n 0 (pc' := 41) hC dX6_row_40 rfl rfl ?_
    refine j_getr' (o2 := 2) (pc' := 44) hC dX6_row_41 rfl fi_X6_13 gm0 rfl ?_
    refine j_bipush (v := 40) (pc' := 46) hC dX6_row_44 rfl rfl ?_
    refine j_iload_n 1 (pc' := 47) hC dX6_row_46 rfl rfl ?_
    refine j_imul (pc' := 48) hC dX6_row_47 rfl ?_
    refine j_iload_n 3 (pc' := 49) hC dX6_row_48 rfl rfl ?_
    refine j_iadd (pc' := 50) hC dX6_row_49 rfl ?_
    refine j_iconst (v := 0) (pc' := 51) hC dX6_row_50 rfl rfl ?_
    obtain ⟨g2, h⟩ := jg_s h
    obtain ⟨M3, eM3, h⟩ := jlet_s h
    refine j_iast' (pc' := 52) hC dX6_row_51 rfl gm2 g2 eM3 ?_
    obtain ⟨v4, ev4, h⟩ := jlet_s h
    refine j_iinc' 3 (c := 1) (pc' := 55) hC dX6_row_52 rfl rfl rfl ev4 (by decide) rfl ?_
    refine j_goto (tgt := 34) (pc' := 0) hC dX6_row_55 (by decide) ?_
    refine j_sub [1, 2, 3, 0] rfl ?_
    exact ih _ _ _ _ _ h hK
theorem lp_X6_row_L34 {Γ : jG} (hC : jOK Γ cX6_row 4 RX6 (some .int) { frames := 2, cells := 0, slots := 0, locals := 45 }) {Q : State → Prop} (x2 : Int32) : ∀ (n : Nat) (x1 : Int32) (x3 : Int32) (M : jM) (e3 : Int32) (Me : jM), f_X6_row_L34 n x1 x3 M = some (e3, Me) → jJ Γ GM RM 58 [(0, .ref (jad Γ 0)), (1, .int x1), (2, .int x2), (3, .int e3)] [] Me Q → jJ Γ GM RM 34 [(0, .ref (jad Γ 0)), (1, .int x1), (2, .int x2), (3, .int x3)] [] M Q := by
  intro n
  induction n with
  | zero =>
    intro x1 x3 M e3 Me h hK
    exact jno h
  | succ n ih =>
    intro x1 x3 M e3 Me h hK
    exact lp_X6_row_L34_b hC x2 (f_X6_row_L34 n) ih x1 x3 M e3 Me h hK
theorem t_X6_row (l : Launch) (E : jE) {a1 : Int32} {a2 : Int32} {M : jM} {r : Int32} {M' : jM} (h : f_X6_row a1 a2 M = some (r, M')) : jCi l yX6_row cX6_row 4 (some .int) 2 45 E RM GM (fun a _ => [.ref (a 0), .int a1, .int a2]) M r M' := by
  refine jCi_of (own := RX6) (by decide) rfl (fun _ _ => Nat.le_of_ble_eq_true rfl) ?_
  intro Γ hC
  show jJ Γ GM RM 0 [(0, .ref (jad Γ 0)), (1, .int a1), (2, .int a2)] [] M (jQi Γ RM GM r M')
  unfold f_X6_row at h
  refine j_iload_n 1 (pc' := 1) hC dX6_row_0 rfl rfl ?_
  obtain ⟨r1, hc2, h⟩ := jb1_s h
  refine j_callSi [.int a1] (pc' := 4) hC dX6_row_1 rfl (t_X6_isRow _ _ hc2) cs_X6_99 ⟨⟨Nat.le_of_ble_eq_true rfl, Nat.le_of_ble_eq_true rfl⟩, rfl, Nat.le_of_ble_eq_true rfl⟩ rfl rfl ?_
  refine j_if_eq (tgt := 13) (pc' := 7) hC dX6_row_4 (by decide) rfl (fun c3 => ?_) (fun c3 => ?_)
  · have h := jit_t c3 h
    refine j_iconst (v := -1) (pc' := 14) hC dX6_row_13 rfl rfl ?_
    obtain ⟨q0, q1⟩ := jinj2 h
    subst q0
    subst q1
    exact j_iret hC dX6_row_14
  · have h := jit_f c3 h
    refine j_iload_n 2 (pc' := 8) hC dX6_row_7 rfl rfl ?_
    refine j_bipush (v := 40) (pc' := 10) hC dX6_row_8 rfl rfl ?_
    refine j_icmp_le (tgt := 15) (pc' := 13) hC dX6_row_10 (by decide) rfl (fun c4 => ?_) (fun c4 => ?_)
    · have h := jit_t c4 h
      refine j_iload_n 2 (pc' := 16) hC dX6_row_15 rfl rfl ?_
      refine j_if_ge (tgt := 25) (pc' := 19) hC dX6_row_16 (by decide) rfl (fun c5 => ?_) (fun c5 => ?_)
      · have h := jit_t c5 h
        refine j_aload_n 0 (pc' := 26) hC dX6_row_25 rfl rfl ?_
        refine j_getr' (o2 := 1) (pc' := 29) hC dX6_row_26 rfl fi_X6_7 gm0 rfl ?_
        refine j_iload_n 1 (pc' := 30) hC dX6_row_29 rfl rfl ?_
        refine j_iload_n 2 (pc' := 31) hC dX6_row_30 rfl rfl ?_
        obtain ⟨g6, h⟩ := jg_s h
        obtain ⟨M7, eM7, h⟩ := jlet_s h
        refine j_iast' (pc' := 32) hC dX6_row_31 rfl gm1 g6 eM7 ?_
        refine j_iconst (v := 0) (pc' := 33) hC dX6_row_32 rfl rfl ?_
        refine j_istore_n (pc' := 34) hC dX6_row_33 rfl rfl (by decide) rfl ?_
        refine j_sub [1, 2, 3, 0] rfl ?_
        obtain ⟨v8, M9, hm10, h⟩ := jb2_s h
        refine lp_X6_row_L34 hC a2 jfu a1 (0 : Int32) M7 v8 M9 hm10 ?_
        refine j_iload_n 2 (pc' := 59) hC dX6_row_58 rfl rfl ?_
        obtain ⟨q0, q1⟩ := jinj2 h
        subst q0
        subst q1
        exact j_iret hC dX6_row_59
      · have h := jit_f c5 h
        refine j_aload_n 0 (pc' := 20) hC dX6_row_19 rfl rfl ?_
        refine j_iconst (v := 5) (pc' := 21) hC dX6_row_20 rfl rfl ?_
        obtain ⟨r11, M12, hc13, h⟩ := jb2_s h
        refine j_callVi [.int (5 : Int32)] (pc' := 24) hC dX6_row_21 rfl (t_X6_find _ _ hc13) gm0 vcl6 cv_X6_103 ⟨⟨Nat.le_of_ble_eq_true rfl, Nat.le_of_ble_eq_true rfl⟩, rfl, Nat.le_of_ble_eq_true rfl⟩ rfl rfl ?_
        obtain ⟨q0, q1⟩ := jinj2 h
        subst q0
        subst q1
        exact j_iret hC dX6_row_24
    · have h := jit_f c4 h
      refine j_iconst (v := -1) (pc' := 14) hC dX6_row_13 rfl rfl ?_
      obtain ⟨q0, q1⟩ := jinj2 h
      subst q0
      subst q1
      exact j_iret hC dX6_row_14
theorem t_X6_lacksPlace (l : Launch) (E : jE) {a1 : Int32} {a2 : Int32} {M : jM} {r : Int32} {M' : jM} (h : f_X6_lacksPlace a1 a2 M = some (r, M')) : jCi l yX6_lacksPlace cX6_lacksPlace 3 (some .int) 2 45 E RM GM (fun a _ => [.ref (a 0), .int a1, .int a2]) M r M' := by
  refine jCi_of (own := RX6) (by decide) rfl (fun _ _ => Nat.le_of_ble_eq_true rfl) ?_
  intro Γ hC
  show jJ Γ GM RM 0 [(0, .ref (jad Γ 0)), (1, .int a1), (2, .int a2)] [] M (jQi Γ RM GM r M')
  unfold f_X6_lacksPlace at h
  refine j_iload_n 1 (pc' := 1) hC dX6_lacksPlace_0 rfl rfl ?_
  obtain ⟨r1, hc2, h⟩ := jb1_s h
  refine j_callSi [.int a1] (pc' := 4) hC dX6_lacksPlace_1 rfl (t_X6_isRow _ _ hc2) cs_X6_99 ⟨⟨Nat.le_of_ble_eq_true rfl, Nat.le_of_ble_eq_true rfl⟩, rfl, Nat.le_of_ble_eq_true rfl⟩ rfl rfl ?_
  refine j_if_ne (tgt := 9) (pc' := 7) hC dX6_lacksPlace_4 (by decide) rfl (fun c3 => ?_) (fun c3 => ?_)
  · have h := jit_f c3 h
    refine j_aload_n 0 (pc' := 10) hC dX6_lacksPlace_9 rfl rfl ?_
    refine j_getr' (o2 := 1) (pc' := 13) hC dX6_lacksPlace_10 rfl fi_X6_7 gm0 rfl ?_
    refine j_iload_n 1 (pc' := 14) hC dX6_lacksPlace_13 rfl rfl ?_
    obtain ⟨g4, h⟩ := jg_s h
    refine j_iald (pc' := 15) hC dX6_lacksPlace_14 rfl gm1 g4 ?_
    refine j_if_ge (tgt := 24) (pc' := 18) hC dX6_lacksPlace_15 (by decide) rfl (fun c5 => ?_) (fun c5 => ?_)
    · have h := jit_t c5 h
      refine j_iload_n 2 (pc' := 25) hC dX6_lacksPlace_24 rfl rfl ?_
      refine j_i2l (pc' := 26) hC dX6_lacksPlace_25 rfl ?_
      refine j_lconst (v := 0) (pc' := 27) hC dX6_lacksPlace_26 rfl rfl ?_
      refine j_aload_n 0 (pc' := 28) hC dX6_lacksPlace_27 rfl rfl ?_
      refine j_getr' (o2 := 1) (pc' := 31) hC dX6_lacksPlace_28 rfl fi_X6_7 gm0 rfl ?_
      refine j_iload_n 1 (pc' := 32) hC dX6_lacksPlace_31 rfl rfl ?_
      obtain ⟨g6, h⟩ := jg_s h
      refine j_iald (pc' := 33) hC dX6_lacksPlace_32 rfl gm1 g6 ?_
      refine j_iconst (v := 1) (pc' := 34) hC dX6_lacksPlace_33 rfl rfl ?_
      refine j_isub (pc' := 35) hC dX6_lacksPlace_34 rfl ?_
      refine j_i2l (pc' := 36) hC dX6_lacksPlace_35 rfl ?_
      obtain ⟨r7, hc8, h⟩ := jb1_s h
      refine j_callSi [.long a2.toInt64, .long (0 : Int64), .long ((gi M 1 a1.toNatClampNeg) - (1 : Int32)).toInt64] (pc' := 39) hC dX6_lacksPlace_36 rfl (t_X6_in _ _ hc8) cs_X6_93 ⟨⟨Nat.le_of_ble_eq_true rfl, Nat.le_of_ble_eq_true rfl⟩, rfl, Nat.le_of_ble_eq_true rfl⟩ rfl rfl ?_
      refine j_if_eq (tgt := 46) (pc' := 42) hC dX6_lacksPlace_39 (by decide) rfl (fun c9 => ?_) (fun c9 => ?_)
      · have h := jit_t c9 h
        refine j_aload_n 0 (pc' := 47) hC dX6_lacksPlace_46 rfl rfl ?_
        refine j_iconst (v := 2) (pc' := 48) hC dX6_lacksPlace_47 rfl rfl ?_
        obtain ⟨r10, M11, hc12, h⟩ := jb2_s h
        refine j_callVi [.int (2 : Int32)] (pc' := 51) hC dX6_lacksPlace_48 rfl (t_X6_find _ _ hc12) gm0 vcl6 cv_X6_103 ⟨⟨Nat.le_of_ble_eq_true rfl, Nat.le_of_ble_eq_true rfl⟩, rfl, Nat.le_of_ble_eq_true rfl⟩ rfl rfl ?_
        obtain ⟨q0, q1⟩ := jinj2 h
        subst q0
        subst q1
        exact j_iret hC dX6_lacksPlace_51
      · have h := jit_f c9 h
        refine j_iconst (v := 0) (pc' := 43) hC dX6_lacksPlace_42 rfl rfl ?_
        refine j_goto (tgt := 51) (pc' := 0) hC dX6_lacksPlace_43 (by decide) ?_
        obtain ⟨q0, q1⟩ := jinj2 h
        subst q0
        subst q1
        exact j_iret hC dX6_lacksPlace_51
    · have h := jit_f c5 h
      refine j_aload_n 0 (pc' := 19) hC dX6_lacksPlace_18 rfl rfl ?_
      refine j_iconst (v := 1) (pc' := 20) hC dX6_lacksPlace_19 rfl rfl ?_
      obtain ⟨r13, M14, hc15, h⟩ := jb2_s h
      refine j_callVi [.int (1 : Int32)] (pc' := 23) hC dX6_lacksPlace_20 rfl (t_X6_find _ _ hc15) gm0 vcl6 cv_X6_103 ⟨⟨Nat.le_of_ble_eq_true rfl, Nat.le_of_ble_eq_true rfl⟩, rfl, Nat.le_of_ble_eq_true rfl⟩ rfl rfl ?_
      obtain ⟨q0, q1⟩ := jinj2 h
      subst q0
      subst q1
      exact j_iret hC dX6_lacksPlace_23
  · have h := jit_t c3 h
    refine j_iconst (v := -1) (pc' := 8) hC dX6_lacksPlace_7 rfl rfl ?_
    obtain ⟨q0, q1⟩ := jinj2 h
    subst q0
    subst q1
    exact j_iret hC dX6_lacksPlace_8
theorem t_X6_lay (l : Launch) (E : jE) {a1 : Int32} {a2 : Int32} {a3 : Int32} {M : jM} {r : Int32} {M' : jM} (h : f_X6_lay a1 a2 a3 M = some (r, M')) : jCi l yX6_lay cX6_lay 6 (some .int) 3 67 E RM GM (fun a _ => [.ref (a 0), .int a1, .int a2, .int a3]) M r M' := by
  refine jCi_of (own := RX6) (by decide) rfl (fun _ _ => Nat.le_of_ble_eq_true rfl) ?_
  intro Γ hC
  show jJ Γ GM RM 0 [(0, .ref (jad Γ 0)), (1, .int a1), (2, .int a2), (3, .int a3)] [] M (jQi Γ RM GM r M')
  unfold f_X6_lay at h
  refine j_aload_n 0 (pc' := 1) hC dX6_lay_0 rfl rfl ?_
  refine j_iload_n 1 (pc' := 2) hC dX6_lay_1 rfl rfl ?_
  refine j_iload_n 2 (pc' := 3) hC dX6_lay_2 rfl rfl ?_
  obtain ⟨r1, M2, hc3, h⟩ := jb2_s h
  refine j_callVi [.int a1, .int a2] (pc' := 6) hC dX6_lay_3 rfl (t_X6_lacksPlace _ _ hc3) gm0 vcl6 cv_X6_107 ⟨⟨Nat.le_of_ble_eq_true rfl, Nat.le_of_ble_eq_true rfl⟩, rfl, Nat.le_of_ble_eq_true rfl⟩ rfl rfl ?_
  refine j_istore (pc' := 8) hC dX6_lay_6 rfl rfl (by decide) rfl ?_
  refine j_iload 0 (pc' := 10) hC dX6_lay_8 rfl rfl ?_
  refine j_if_ge (tgt := 16) (pc' := 13) hC dX6_lay_10 (by decide) rfl (fun c4 => ?_) (fun c4 => ?_)
  · have h := jit_t c4 h
    refine j_aload_n 1 (pc' := 17) hC dX6_lay_16 rfl rfl ?_
    refine j_getr' (o2 := 2) (pc' := 20) hC dX6_lay_17 rfl fi_X6_13 gm0 rfl ?_
    refine j_bipush (v := 40) (pc' := 22) hC dX6_lay_20 rfl rfl ?_
    refine j_iload_n 2 (pc' := 23) hC dX6_lay_22 rfl rfl ?_
    refine j_imul (pc' := 24) hC dX6_lay_23 rfl ?_
    refine j_iload_n 3 (pc' := 25) hC dX6_lay_24 rfl rfl ?_
    refine j_iadd (pc' := 26) hC dX6_lay_25 rfl ?_
    obtain ⟨g5, h⟩ := jg_s h
    refine j_iald (pc' := 27) hC dX6_lay_26 rfl gm2 g5 ?_
    obtain ⟨v6, ev6, h⟩ := jlet_s h
    refine j_istore (pc' := 29) hC dX6_lay_27 rfl ev6 (by decide) rfl ?_
    refine j_aload_n 2 (pc' := 30) hC dX6_lay_29 rfl rfl ?_
    refine j_getr' (o2 := 2) (pc' := 33) hC dX6_lay_30 rfl fi_X6_13 gm0 rfl ?_
    refine j_bipush (v := 40) (pc' := 35) hC dX6_lay_33 rfl rfl ?_
    refine j_iload_n 3 (pc' := 36) hC dX6_lay_35 rfl rfl ?_
    refine j_imul (pc' := 37) hC dX6_lay_36 rfl ?_
    refine j_iload_n 4 (pc' := 38) hC dX6_lay_37 rfl rfl ?_
    refine j_iadd (pc' := 39) hC dX6_lay_38 rfl ?_
    refine j_iload_n 5 (pc' := 40) hC dX6_lay_39 rfl rfl ?_
    obtain ⟨g7, h⟩ := jg_s h
    obtain ⟨M8, eM8, h⟩ := jlet_s h
    refine j_iast' (pc' := 41) hC dX6_lay_40 rfl gm2 g7 eM8 ?_
    refine j_aload_n 2 (pc' := 42) hC dX6_lay_41 rfl rfl ?_
    refine j_iconst (v := 1) (pc' := 43) hC dX6_lay_42 rfl rfl ?_
    refine j_iload 0 (pc' := 45) hC dX6_lay_43 rfl rfl ?_
    obtain ⟨r9, M10, hc11, h⟩ := jb2_s h
    refine j_callVi [.int (1 : Int32), .int v6] (pc' := 48) hC dX6_lay_45 rfl (t_X6_answer _ _ hc11) gm0 vcl6 cv_X6_111 ⟨⟨Nat.le_of_ble_eq_true rfl, Nat.le_of_ble_eq_true rfl⟩, rfl, Nat.le_of_ble_eq_true rfl⟩ rfl rfl ?_
    obtain ⟨q0, q1⟩ := jinj2 h
    subst q0
    subst q1
    exact j_iret hC dX6_lay_48
  · have h := jit_f c4 h
    refine j_iload 0 (pc' := 15) hC dX6_lay_13 rfl rfl ?_
    obtain ⟨q0, q1⟩ := jinj2 h
    subst q0
    subst q1
    exact j_iret hC dX6_lay_15
theorem t_X6_at (l : Launch) (E : jE) {a1 : Int32} {a2 : Int32} {M : jM} {r : Int32} {M' : jM} (h : f_X6_at a1 a2 M = some (r, M')) : jCi l yX6_at cX6_at 4 (some .int) 3 67 E RM GM (fun a _ => [.ref (a 0), .int a1, .int a2]) M r M' := by
  refine jCi_of (own := RX6) (by decide) rfl (fun _ _ => Nat.le_of_ble_eq_true rfl) ?_
  intro Γ hC
  show jJ Γ GM RM 0 [(0, .ref (jad Γ 0)), (1, .int a1), (2, .int a2)] [] M (jQi Γ RM GM r M')
  unfold f_X6_at at h
  refine j_aload_n 0 (pc' := 1) hC dX6_at_0 rfl rfl ?_
  refine j_iload_n 1 (pc' := 2) hC dX6_at_1 rfl rfl ?_
  refine j_iload_n 2 (pc' := 3) hC dX6_at_2 rfl rfl ?_
  obtain ⟨r1, M2, hc3, h⟩ := jb2_s h
  refine j_callVi [.int a1, .int a2] (pc' := 6) hC dX6_at_3 rfl (t_X6_lacksPlace _ _ hc3) gm0 vcl6 cv_X6_107 ⟨⟨Nat.le_of_ble_eq_true rfl, Nat.le_of_ble_eq_true rfl⟩, rfl, Nat.le_of_ble_eq_true rfl⟩ rfl rfl ?_
  refine j_istore_n (pc' := 7) hC dX6_at_6 rfl rfl (by decide) rfl ?_
  refine j_iload_n 0 (pc' := 8) hC dX6_at_7 rfl rfl ?_
  refine j_if_ge (tgt := 15) (pc' := 11) hC dX6_at_8 (by decide) rfl (fun c4 => ?_) (fun c4 => ?_)
  · have h := jit_t c4 h
    refine j_aload_n 1 (pc' := 16) hC dX6_at_15 rfl rfl ?_
    refine j_iconst (v := 1) (pc' := 17) hC dX6_at_16 rfl rfl ?_
    refine j_aload_n 1 (pc' := 18) hC dX6_at_17 rfl rfl ?_
    refine j_getr' (o2 := 2) (pc' := 21) hC dX6_at_18 rfl fi_X6_13 gm0 rfl ?_
    refine j_bipush (v := 40) (pc' := 23) hC dX6_at_21 rfl rfl ?_
    refine j_iload_n 2 (pc' := 24) hC dX6_at_23 rfl rfl ?_
    refine j_imul (pc' := 25) hC dX6_at_24 rfl ?_
    refine j_iload_n 3 (pc' := 26) hC dX6_at_25 rfl rfl ?_
    refine j_iadd (pc' := 27) hC dX6_at_26 rfl ?_
    obtain ⟨g5, h⟩ := jg_s h
    refine j_iald (pc' := 28) hC dX6_at_27 rfl gm2 g5 ?_
    obtain ⟨r6, M7, hc8, h⟩ := jb2_s h
    refine j_callVi [.int (1 : Int32), .int (gi M2 2 (((40 : Int32) * a1) + a2).toNatClampNeg)] (pc' := 31) hC dX6_at_28 rfl (t_X6_answer _ _ hc8) gm0 vcl6 cv_X6_111 ⟨⟨Nat.le_of_ble_eq_true rfl, Nat.le_of_ble_eq_true rfl⟩, rfl, Nat.le_of_ble_eq_true rfl⟩ rfl rfl ?_
    obtain ⟨q0, q1⟩ := jinj2 h
    subst q0
    subst q1
    exact j_iret hC dX6_at_31
  · have h := jit_f c4 h
    refine j_iload_n 0 (pc' := 12) hC dX6_at_11 rfl rfl ?_
    refine j_goto (tgt := 31) (pc' := 0) hC dX6_at_12 (by decide) ?_
    obtain ⟨q0, q1⟩ := jinj2 h
    subst q0
    subst q1
    exact j_iret hC dX6_at_31
theorem t_X6_tear (l : Launch) (E : jE) {a1 : Int32} {M : jM} {r : Int32} {M' : jM} (h : f_X6_tear a1 M = some (r, M')) : jCi l yX6_tear cX6_tear 2 (some .int) 2 45 E RM GM (fun a _ => [.ref (a 0), .int a1]) M r M' := by
  refine jCi_of (own := RX6) (by decide) rfl (fun _ _ => Nat.le_of_ble_eq_true rfl) ?_
  intro Γ hC
  show jJ Γ GM RM 0 [(0, .ref (jad Γ 0)), (1, .int a1)] [] M (jQi Γ RM GM r M')
  unfold f_X6_tear at h
  refine j_iload_n 1 (pc' := 1) hC dX6_tear_0 rfl rfl ?_
  obtain ⟨r1, hc2, h⟩ := jb1_s h
  refine j_callSi [.int a1] (pc' := 4) hC dX6_tear_1 rfl (t_X6_isRow _ _ hc2) cs_X6_99 ⟨⟨Nat.le_of_ble_eq_true rfl, Nat.le_of_ble_eq_true rfl⟩, rfl, Nat.le_of_ble_eq_true rfl⟩ rfl rfl ?_
  refine j_if_ne (tgt := 9) (pc' := 7) hC dX6_tear_4 (by decide) rfl (fun c3 => ?_) (fun c3 => ?_)
  · have h := jit_f c3 h
    refine j_aload_n 0 (pc' := 10) hC dX6_tear_9 rfl rfl ?_
    refine j_getr' (o2 := 1) (pc' := 13) hC dX6_tear_10 rfl fi_X6_7 gm0 rfl ?_
    refine j_iload_n 1 (pc' := 14) hC dX6_tear_13 rfl rfl ?_
    obtain ⟨g4, h⟩ := jg_s h
    refine j_iald (pc' := 15) hC dX6_tear_14 rfl gm1 g4 ?_
    refine j_if_ge (tgt := 24) (pc' := 18) hC dX6_tear_15 (by decide) rfl (fun c5 => ?_) (fun c5 => ?_)
    · have h := jit_t c5 h
      refine j_aload_n 0 (pc' := 25) hC dX6_tear_24 rfl rfl ?_
      refine j_getr' (o2 := 1) (pc' := 28) hC dX6_tear_25 rfl fi_X6_7 gm0 rfl ?_
      refine j_iload_n 1 (pc' := 29) hC dX6_tear_28 rfl rfl ?_
      refine j_iconst (v := -1) (pc' := 30) hC dX6_tear_29 rfl rfl ?_
      obtain ⟨g6, h⟩ := jg_s h
      obtain ⟨M7, eM7, h⟩ := jlet_s h
      refine j_iast' (pc' := 31) hC dX6_tear_30 rfl gm1 g6 eM7 ?_
      refine j_iconst (v := 1) (pc' := 32) hC dX6_tear_31 rfl rfl ?_
      obtain ⟨q0, q1⟩ := jinj2 h
      subst q0
      subst q1
      exact j_iret hC dX6_tear_32
    · have h := jit_f c5 h
      refine j_aload_n 0 (pc' := 19) hC dX6_tear_18 rfl rfl ?_
      refine j_iconst (v := 1) (pc' := 20) hC dX6_tear_19 rfl rfl ?_
      obtain ⟨r8, M9, hc10, h⟩ := jb2_s h
      refine j_callVi [.int (1 : Int32)] (pc' := 23) hC dX6_tear_20 rfl (t_X6_find _ _ hc10) gm0 vcl6 cv_X6_103 ⟨⟨Nat.le_of_ble_eq_true rfl, Nat.le_of_ble_eq_true rfl⟩, rfl, Nat.le_of_ble_eq_true rfl⟩ rfl rfl ?_
      obtain ⟨q0, q1⟩ := jinj2 h
      subst q0
      subst q1
      exact j_iret hC dX6_tear_23
  · have h := jit_t c3 h
    refine j_iconst (v := -1) (pc' := 8) hC dX6_tear_7 rfl rfl ?_
    obtain ⟨q0, q1⟩ := jinj2 h
    subst q0
    subst q1
    exact j_iret hC dX6_tear_8
theorem lp_X6_copy_L101_b {Γ : jG} (hC : jOK Γ cX6_copy 7 RX6 (some .int) { frames := 2, cells := 0, slots := 0, locals := 45 }) {Q : State → Prop} (x3 : Int32) (x4 : Int32) (rec : Int32 → Int32 → Int32 → Int32 → jM → Option (Int32 × jM)) (ih : ∀ (x1 : Int32) (x2 : Int32) (x5 : Int32) (x6 : Int32) (M : jM) (e6 : Int32) (Me : jM), rec x1 x2 x5 x6 M = some (e6, Me) → jJ Γ GM RM 135 [(0, .ref (jad Γ 0)), (1, .int x1), (2, .int x2), (3, .int x3), (4, .int x4), (5, .int x5), (6, .int e6)] [] Me Q → jJ Γ GM RM 101 [(0, .ref (jad Γ 0)), (1, .int x1), (2, .int x2), (3, .int x3), (4, .int x4), (5, .int x5), (6, .int x6)] [] M Q) (x1 : Int32) (x2 : Int32) (x5 : Int32) (x6 : Int32) (M : jM) (e6 : Int32) (Me : jM) (h : f_X6_copy_L101_b rec x1 x2 x5 x6 M = some (e6, Me)) (hK : jJ Γ GM RM 135 [(0, .ref (jad Γ 0)), (1, .int x1), (2, .int x2), (3, .int x3), (4, .int x4), (5, .int x5), (6, .int e6)] [] Me Q) : jJ Γ GM RM 101 [(0, .ref (jad Γ 0)), (1, .int x1), (2, .int x2), (3, .int x3), (4, .int x4), (5, .int x5), (6, .int x6)] [] M Q := by
  unfold f_X6_copy_L101_b at h
  refine j_iload 6 (pc' := 103) hC dX6_copy_101 rfl rfl ?_
  refine j_iload 5 (pc' := 105) hC dX6_copy_103 rfl rfl ?_
  refine j_icmp_ge (tgt := 135) (pc' := 108) hC dX6_copy_105 (by decide) rfl (fun c1 => ?_) (fun c1 => ?_)
  · have h := jit_t c1 h
    obtain ⟨q0, q1⟩ := jinj2 h
    subst q0
    subst q1
    refine j_sub [0, 1, 2, 3, 4, 5, 6] rfl ?_
    exact hK
  · have h := jit_f c1 h
    refine j_aload_n 0 (pc' := 109) hC dX6_copy_108 rfl rfl ?_
    refine j_getr' (o2 := 15) (pc' := 112) hC dX6_copy_109 rfl fi_X6_56 gm0 rfl ?_
    refine j_iload 6 (pc' := 114) hC dX6_copy_112 rfl rfl ?_
    refine j_aload_n 0 (pc' := 115) hC dX6_copy_114 rfl rfl ?_
    refine j_getr' (o2 := 2) (pc' := 118) hC dX6_copy_115 rfl fi_X6_13 gm0 rfl ?_
    refine j_bipush (v := 40) (pc' := 120) hC dX6_copy_118 rfl rfl ?_
    refine j_iload_n 1 (pc' := 121) hC dX6_copy_120 rfl rfl ?_
    refine j_imul (pc' := 122) hC dX6_copy_121 rfl ?_
    refine j_iload_n 2 (pc' := 123) hC dX6_copy_122 rfl rfl ?_
    refine j_iadd (pc' := 124) hC dX6_copy_123 rfl ?_
    refine j_iload 6 (pc' := 126) hC dX6_copy_124 rfl rfl ?_
    refine j_iadd (pc' := 127) hC dX6_copy_126 rfl ?_
    obtain ⟨g2, h⟩ := jg_s h
    refine j_iald (pc' := 128) hC dX6_copy_127 rfl gm2 g2 ?_
    obtain ⟨g3, h⟩ := jg_s h
    obtain ⟨M4, eM4, h⟩ := jlet_s h
    refine j_iast' (pc' := 129) hC dX6_copy_128 rfl gm15 g3 eM4 ?_
    obtain ⟨v5, ev5, h⟩ := jlet_s h
    refine j_iinc' 6 (c := 1) (pc' := 132) hC dX6_copy_129 rfl rfl rfl ev5 (by decide) rfl ?_
    refine j_goto (tgt := 101) (pc' := 0) hC dX6_copy_132 (by decide) ?_
    refine j_sub [1, 2, 3, 4, 5, 6, 0] rfl ?_
    exact ih _ _ _ _ _ _ _ h hK
theorem lp_X6_copy_L101 {Γ : jG} (hC : jOK Γ cX6_copy 7 RX6 (some .int) { frames := 2, cells := 0, slots := 0, locals := 45 }) {Q : State → Prop} (x3 : Int32) (x4 : Int32) : ∀ (n : Nat) (x1 : Int32) (x2 : Int32) (x5 : Int32) (x6 : Int32) (M : jM) (e6 : Int32) (Me : jM), f_X6_copy_L101 n x1 x2 x5 x6 M = some (e6, Me) → jJ Γ GM RM 135 [(0, .ref (jad Γ 0)), (1, .int x1), (2, .int x2), (3, .int x3), (4, .int x4), (5, .int x5), (6, .int e6)] [] Me Q → jJ Γ GM RM 101 [(0, .ref (jad Γ 0)), (1, .int x1), (2, .int x2), (3, .int x3), (4, .int x4), (5, .int x5), (6, .int x6)] [] M Q := by
  intro n
  induction n with
  | zero =>
    intro x1 x2 x5 x6 M e6 Me h hK
    exact jno h
  | succ n ih =>
    intro x1 x2 x5 x6 M e6 Me h hK
    exact lp_X6_copy_L101_b hC x3 x4 (f_X6_copy_L101 n) ih x1 x2 x5 x6 M e6 Me h hK
theorem lp_X6_copy_L138_b {Γ : jG} (hC : jOK Γ cX6_copy 7 RX6 (some .int) { frames := 2, cells := 0, slots := 0, locals := 45 }) {Q : State → Prop} (x1 : Int32) (x2 : Int32) (rec : Int32 → Int32 → Int32 → Int32 → jM → Option (Int32 × jM)) (ih : ∀ (x3 : Int32) (x4 : Int32) (x5 : Int32) (x6 : Int32) (M : jM) (e6 : Int32) (Me : jM), rec x3 x4 x5 x6 M = some (e6, Me) → jJ Γ GM RM 173 [(0, .ref (jad Γ 0)), (1, .int x1), (2, .int x2), (3, .int x3), (4, .int x4), (5, .int x5), (6, .int e6)] [] Me Q → jJ Γ GM RM 138 [(0, .ref (jad Γ 0)), (1, .int x1), (2, .int x2), (3, .int x3), (4, .int x4), (5, .int x5), (6, .int x6)] [] M Q) (x3 : Int32) (x4 : Int32) (x5 : Int32) (x6 : Int32) (M : jM) (e6 : Int32) (Me : jM) (h : f_X6_copy_L138_b rec x3 x4 x5 x6 M = some (e6, Me)) (hK : jJ Γ GM RM 173 [(0, .ref (jad Γ 0)), (1, .int x1), (2, .int x2), (3, .int x3), (4, .int x4), (5, .int x5), (6, .int e6)] [] Me Q) : jJ Γ GM RM 138 [(0, .ref (jad Γ 0)), (1, .int x1), (2, .int x2), (3, .int x3), (4, .int x4), (5, .int x5), (6, .int x6)] [] M Q := by
  unfold f_X6_copy_L138_b at h
  refine j_iload 6 (pc' := 140) hC dX6_copy_138 rfl rfl ?_
  refine j_iload 5 (pc' := 142) hC dX6_copy_140 rfl rfl ?_
  refine j_icmp_ge (tgt := 173) (pc' := 145) hC dX6_copy_142 (by decide) rfl (fun c1 => ?_) (fun c1 => ?_)
  · have h := jit_t c1 h
    obtain ⟨q0, q1⟩ := jinj2 h
    subst q0
    subst q1
    refine j_sub [0, 1, 2, 3, 4, 5, 6] rfl ?_
    exact hK
  · have h := jit_f c1 h
    refine j_aload_n 0 (pc' := 146) hC dX6_copy_145 rfl rfl ?_
    refine j_getr' (o2 := 2) (pc' := 149) hC dX6_copy_146 rfl fi_X6_13 gm0 rfl ?_
    refine j_bipush (v := 40) (pc' := 151) hC dX6_copy_149 rfl rfl ?_
    refine j_iload_n 3 (pc' := 152) hC dX6_copy_151 rfl rfl ?_
    refine j_imul (pc' := 153) hC dX6_copy_152 rfl ?_
    refine j_iload 4 (pc' := 155) hC dX6_copy_153 rfl rfl ?_
    refine j_iadd (pc' := 156) hC dX6_copy_155 rfl ?_
    refine j_iload 6 (pc' := 158) hC dX6_copy_156 rfl rfl ?_
    refine j_iadd (pc' := 159) hC dX6_copy_158 rfl ?_
    refine j_aload_n 0 (pc' := 160) hC dX6_copy_159 rfl rfl ?_
    refine j_getr' (o2 := 15) (pc' := 163) hC dX6_copy_160 rfl fi_X6_56 gm0 rfl ?_
    refine j_iload 6 (pc' := 165) hC dX6_copy_163 rfl rfl ?_
    obtain ⟨g2, h⟩ := jg_s h
    refine j_iald (pc' := 166) hC dX6_copy_165 rfl gm15 g2 ?_
    obtain ⟨g3, h⟩ := jg_s h
    obtain ⟨M4, eM4, h⟩ := jlet_s h
    refine j_iast' (pc' := 167) hC dX6_copy_166 rfl gm2 g3 eM4 ?_
    obtain ⟨v5, ev5, h⟩ := jlet_s h
    refine j_iinc' 6 (c := 1) (pc' := 170) hC dX6_copy_167 rfl rfl rfl ev5 (by decide) rfl ?_
    refine j_goto (tgt := 138) (pc' := 0) hC dX6_copy_170 (by decide) ?_
    refine j_sub [1, 2, 3, 4, 5, 6, 0] rfl ?_
    exact ih _ _ _ _ _ _ _ h hK
theorem lp_X6_copy_L138 {Γ : jG} (hC : jOK Γ cX6_copy 7 RX6 (some .int) { frames := 2, cells := 0, slots := 0, locals := 45 }) {Q : State → Prop} (x1 : Int32) (x2 : Int32) : ∀ (n : Nat) (x3 : Int32) (x4 : Int32) (x5 : Int32) (x6 : Int32) (M : jM) (e6 : Int32) (Me : jM), f_X6_copy_L138 n x3 x4 x5 x6 M = some (e6, Me) → jJ Γ GM RM 173 [(0, .ref (jad Γ 0)), (1, .int x1), (2, .int x2), (3, .int x3), (4, .int x4), (5, .int x5), (6, .int e6)] [] Me Q → jJ Γ GM RM 138 [(0, .ref (jad Γ 0)), (1, .int x1), (2, .int x2), (3, .int x3), (4, .int x4), (5, .int x5), (6, .int x6)] [] M Q := by
  intro n
  induction n with
  | zero =>
    intro x3 x4 x5 x6 M e6 Me h hK
    exact jno h
  | succ n ih =>
    intro x3 x4 x5 x6 M e6 Me h hK
    exact lp_X6_copy_L138_b hC x1 x2 (f_X6_copy_L138 n) ih x3 x4 x5 x6 M e6 Me h hK
theorem t_X6_copy (l : Launch) (E : jE) {a1 : Int32} {a2 : Int32} {a3 : Int32} {a4 : Int32} {a5 : Int32} {M : jM} {r : Int32} {M' : jM} (h : f_X6_copy a1 a2 a3 a4 a5 M = some (r, M')) : jCi l yX6_copy cX6_copy 7 (some .int) 2 45 E RM GM (fun a _ => [.ref (a 0), .int a1, .int a2, .int a3, .int a4, .int a5]) M r M' := by
  refine jCi_of (own := RX6) (by decide) rfl (fun _ _ => Nat.le_of_ble_eq_true rfl) ?_
  intro Γ hC
  show jJ Γ GM RM 0 [(0, .ref (jad Γ 0)), (1, .int a1), (2, .int a2), (3, .int a3), (4, .int a4), (5, .int a5)] [] M (jQi Γ RM GM r M')
  unfold f_X6_copy at h
  refine j_iload_n 1 (pc' := 1) hC dX6_copy_0 rfl rfl ?_
  obtain ⟨r1, hc2, h⟩ := jb1_s h
  refine j_callSi [.int a1] (pc' := 4) hC dX6_copy_1 rfl (t_X6_isRow _ _ hc2) cs_X6_99 ⟨⟨Nat.le_of_ble_eq_true rfl, Nat.le_of_ble_eq_true rfl⟩, rfl, Nat.le_of_ble_eq_true rfl⟩ rfl rfl ?_
  refine j_if_eq (tgt := 14) (pc' := 7) hC dX6_copy_4 (by decide) rfl (fun c3 => ?_) (fun c3 => ?_)
  · have h := jit_t c3 h
    refine j_iconst (v := -1) (pc' := 15) hC dX6_copy_14 rfl rfl ?_
    obtain ⟨q0, q1⟩ := jinj2 h
    subst q0
    subst q1
    exact j_iret hC dX6_copy_15
  · have h := jit_f c3 h
    refine j_iload_n 3 (pc' := 8) hC dX6_copy_7 rfl rfl ?_
    obtain ⟨r4, hc5, h⟩ := jb1_s h
    refine j_callSi [.int a3] (pc' := 11) hC dX6_copy_8 rfl (t_X6_isRow _ _ hc5) cs_X6_99 ⟨⟨Nat.le_of_ble_eq_true rfl, Nat.le_of_ble_eq_true rfl⟩, rfl, Nat.le_of_ble_eq_true rfl⟩ rfl rfl ?_
    refine j_if_ne (tgt := 16) (pc' := 14) hC dX6_copy_11 (by decide) rfl (fun c6 => ?_) (fun c6 => ?_)
    · have h := jit_f c6 h
      refine j_iload 5 (pc' := 18) hC dX6_copy_16 rfl rfl ?_
      refine j_if_ge (tgt := 27) (pc' := 21) hC dX6_copy_18 (by decide) rfl (fun c7 => ?_) (fun c7 => ?_)
      · have h := jit_t c7 h
        refine j_aload_n 0 (pc' := 28) hC dX6_copy_27 rfl rfl ?_
        refine j_getr' (o2 := 1) (pc' := 31) hC dX6_copy_28 rfl fi_X6_7 gm0 rfl ?_
        refine j_iload_n 1 (pc' := 32) hC dX6_copy_31 rfl rfl ?_
        obtain ⟨g8, h⟩ := jg_s h
        refine j_iald (pc' := 33) hC dX6_copy_32 rfl gm1 g8 ?_
        refine j_if_lt (tgt := 45) (pc' := 36) hC dX6_copy_33 (by decide) rfl (fun c9 => ?_) (fun c9 => ?_)
        · have h := jit_t c9 h
          refine j_aload_n 0 (pc' := 46) hC dX6_copy_45 rfl rfl ?_
          refine j_iconst (v := 1) (pc' := 47) hC dX6_copy_46 rfl rfl ?_
          obtain ⟨r10, M11, hc12, h⟩ := jb2_s h
          refine j_callVi [.int (1 : Int32)] (pc' := 50) hC dX6_copy_47 rfl (t_X6_find _ _ hc12) gm0 vcl6 cv_X6_103 ⟨⟨Nat.le_of_ble_eq_true rfl, Nat.le_of_ble_eq_true rfl⟩, rfl, Nat.le_of_ble_eq_true rfl⟩ rfl rfl ?_
          obtain ⟨q0, q1⟩ := jinj2 h
          subst q0
          subst q1
          exact j_iret hC dX6_copy_50
        · have h := jit_f c9 h
          refine j_aload_n 0 (pc' := 37) hC dX6_copy_36 rfl rfl ?_
          refine j_getr' (o2 := 1) (pc' := 40) hC dX6_copy_37 rfl fi_X6_7 gm0 rfl ?_
          refine j_iload_n 3 (pc' := 41) hC dX6_copy_40 rfl rfl ?_
          obtain ⟨g13, h⟩ := jg_s h
          refine j_iald (pc' := 42) hC dX6_copy_41 rfl gm1 g13 ?_
          refine j_if_ge (tgt := 51) (pc' := 45) hC dX6_copy_42 (by decide) rfl (fun c14 => ?_) (fun c14 => ?_)
          · have h := jit_t c14 h
            refine j_iload_n 2 (pc' := 52) hC dX6_copy_51 rfl rfl ?_
            refine j_i2l (pc' := 53) hC dX6_copy_52 rfl ?_
            refine j_lconst (v := 0) (pc' := 54) hC dX6_copy_53 rfl rfl ?_
            refine j_aload_n 0 (pc' := 55) hC dX6_copy_54 rfl rfl ?_
            refine j_getr' (o2 := 1) (pc' := 58) hC dX6_copy_55 rfl fi_X6_7 gm0 rfl ?_
            refine j_iload_n 1 (pc' := 59) hC dX6_copy_58 rfl rfl ?_
            obtain ⟨g15, h⟩ := jg_s h
            refine j_iald (pc' := 60) hC dX6_copy_59 rfl gm1 g15 ?_
            refine j_i2l (pc' := 61) hC dX6_copy_60 rfl ?_
            refine j_iload 5 (pc' := 63) hC dX6_copy_61 rfl rfl ?_
            refine j_i2l (pc' := 64) hC dX6_copy_63 rfl ?_
            refine j_lsub (pc' := 65) hC dX6_copy_64 rfl ?_
            obtain ⟨r16, hc17, h⟩ := jb1_s h
            refine j_callSi [.long a2.toInt64, .long (0 : Int64), .long ((gi M 1 a1.toNatClampNeg).toInt64 - a5.toInt64)] (pc' := 68) hC dX6_copy_65 rfl (t_X6_in _ _ hc17) cs_X6_93 ⟨⟨Nat.le_of_ble_eq_true rfl, Nat.le_of_ble_eq_true rfl⟩, rfl, Nat.le_of_ble_eq_true rfl⟩ rfl rfl ?_
            refine j_if_eq (tgt := 92) (pc' := 71) hC dX6_copy_68 (by decide) rfl (fun c18 => ?_) (fun c18 => ?_)
            · have h := jit_t c18 h
              refine j_aload_n 0 (pc' := 93) hC dX6_copy_92 rfl rfl ?_
              refine j_iconst (v := 2) (pc' := 94) hC dX6_copy_93 rfl rfl ?_
              obtain ⟨r19, M20, hc21, h⟩ := jb2_s h
              refine j_callVi [.int (2 : Int32)] (pc' := 97) hC dX6_copy_94 rfl (t_X6_find _ _ hc21) gm0 vcl6 cv_X6_103 ⟨⟨Nat.le_of_ble_eq_true rfl, Nat.le_of_ble_eq_true rfl⟩, rfl, Nat.le_of_ble_eq_true rfl⟩ rfl rfl ?_
              obtain ⟨q0, q1⟩ := jinj2 h
              subst q0
              subst q1
              exact j_iret hC dX6_copy_97
            · have h := jit_f c18 h
              refine j_iload 4 (pc' := 73) hC dX6_copy_71 rfl rfl ?_
              refine j_i2l (pc' := 74) hC dX6_copy_73 rfl ?_
              refine j_lconst (v := 0) (pc' := 75) hC dX6_copy_74 rfl rfl ?_
              refine j_aload_n 0 (pc' := 76) hC dX6_copy_75 rfl rfl ?_
              refine j_getr' (o2 := 1) (pc' := 79) hC dX6_copy_76 rfl fi_X6_7 gm0 rfl ?_
              refine j_iload_n 3 (pc' := 80) hC dX6_copy_79 rfl rfl ?_
              obtain ⟨g22, h⟩ := jg_s h
              refine j_iald (pc' := 81) hC dX6_copy_80 rfl gm1 g22 ?_
              refine j_i2l (pc' := 82) hC dX6_copy_81 rfl ?_
              refine j_iload 5 (pc' := 84) hC dX6_copy_82 rfl rfl ?_
              refine j_i2l (pc' := 85) hC dX6_copy_84 rfl ?_
              refine j_lsub (pc' := 86) hC dX6_copy_85 rfl ?_
              obtain ⟨r23, hc24, h⟩ := jb1_s h
              refine j_callSi [.long a4.toInt64, .long (0 : Int64), .long ((gi M 1 a3.toNatClampNeg).toInt64 - a5.toInt64)] (pc' := 89) hC dX6_copy_86 rfl (t_X6_in _ _ hc24) cs_X6_93 ⟨⟨Nat.le_of_ble_eq_true rfl, Nat.le_of_ble_eq_true rfl⟩, rfl, Nat.le_of_ble_eq_true rfl⟩ rfl rfl ?_
              refine j_if_ne (tgt := 98) (pc' := 92) hC dX6_copy_89 (by decide) rfl (fun c25 => ?_) (fun c25 => ?_)
              · have h := jit_f c25 h
                refine j_iconst (v := 0) (pc' := 99) hC dX6_copy_98 rfl rfl ?_
                refine j_istore (pc' := 101) hC dX6_copy_99 rfl rfl (by decide) rfl ?_
                refine j_sub [1, 2, 3, 4, 5, 6, 0] rfl ?_
                obtain ⟨v26, M27, hm28, h⟩ := jb2_s h
                refine lp_X6_copy_L101 hC a3 a4 jfu a1 a2 a5 (0 : Int32) M v26 M27 hm28 ?_
                refine j_iconst (v := 0) (pc' := 136) hC dX6_copy_135 rfl rfl ?_
                refine j_istore (pc' := 138) hC dX6_copy_136 rfl rfl (by decide) rfl ?_
                refine j_sub [1, 2, 3, 4, 5, 6, 0] rfl ?_
                obtain ⟨v29, M30, hm31, h⟩ := jb2_s h
                refine lp_X6_copy_L138 hC a1 a2 jfu a3 a4 a5 (0 : Int32) M27 v29 M30 hm31 ?_
                refine j_iconst (v := 1) (pc' := 174) hC dX6_copy_173 rfl rfl ?_
                obtain ⟨q0, q1⟩ := jinj2 h
                subst q0
                subst q1
                exact j_iret hC dX6_copy_174
              · have h := jit_t c25 h
                refine j_aload_n 0 (pc' := 93) hC dX6_copy_92 rfl rfl ?_
                refine j_iconst (v := 2) (pc' := 94) hC dX6_copy_93 rfl rfl ?_
                obtain ⟨r32, M33, hc34, h⟩ := jb2_s h
                refine j_callVi [.int (2 : Int32)] (pc' := 97) hC dX6_copy_94 rfl (t_X6_find _ _ hc34) gm0 vcl6 cv_X6_103 ⟨⟨Nat.le_of_ble_eq_true rfl, Nat.le_of_ble_eq_true rfl⟩, rfl, Nat.le_of_ble_eq_true rfl⟩ rfl rfl ?_
                obtain ⟨q0, q1⟩ := jinj2 h
                subst q0
                subst q1
                exact j_iret hC dX6_copy_97
          · have h := jit_f c14 h
            refine j_aload_n 0 (pc' := 46) hC dX6_copy_45 rfl rfl ?_
            refine j_iconst (v := 1) (pc' := 47) hC dX6_copy_46 rfl rfl ?_
            obtain ⟨r35, M36, hc37, h⟩ := jb2_s h
            refine j_callVi [.int (1 : Int32)] (pc' := 50) hC dX6_copy_47 rfl (t_X6_find _ _ hc37) gm0 vcl6 cv_X6_103 ⟨⟨Nat.le_of_ble_eq_true rfl, Nat.le_of_ble_eq_true rfl⟩, rfl, Nat.le_of_ble_eq_true rfl⟩ rfl rfl ?_
            obtain ⟨q0, q1⟩ := jinj2 h
            subst q0
            subst q1
            exact j_iret hC dX6_copy_50
      · have h := jit_f c7 h
        refine j_aload_n 0 (pc' := 22) hC dX6_copy_21 rfl rfl ?_
        refine j_iconst (v := 5) (pc' := 23) hC dX6_copy_22 rfl rfl ?_
        obtain ⟨r38, M39, hc40, h⟩ := jb2_s h
        refine j_callVi [.int (5 : Int32)] (pc' := 26) hC dX6_copy_23 rfl (t_X6_find _ _ hc40) gm0 vcl6 cv_X6_103 ⟨⟨Nat.le_of_ble_eq_true rfl, Nat.le_of_ble_eq_true rfl⟩, rfl, Nat.le_of_ble_eq_true rfl⟩ rfl rfl ?_
        obtain ⟨q0, q1⟩ := jinj2 h
        subst q0
        subst q1
        exact j_iret hC dX6_copy_26
    · have h := jit_t c6 h
      refine j_iconst (v := -1) (pc' := 15) hC dX6_copy_14 rfl rfl ?_
      obtain ⟨q0, q1⟩ := jinj2 h
      subst q0
      subst q1
      exact j_iret hC dX6_copy_15
