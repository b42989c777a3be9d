theorem t_X4_knowsa (l : Launch) (E : jE) {a1 : Int32} {M : jM} {r : Int32} (h : f_X4_knowsa a1 M = some r) : jCi l yX4_knows cX4_knows 2 (some .boolean) 0 0 E RX GX (fun a _ => [.ref (a 1), .int a1]) M r M := by
  refine jCi_of (own := RX4) (by decide) rfl (fun _ _ => Nat.le_of_ble_eq_true rfl) ?_
  intro Γ hC
  show jJ Γ GX RX 0 [(0, .ref (jad Γ 1)), (1, .int a1)] [] M (jQi Γ RX GX r M)
  unfold f_X4_knowsa at h
  refine j_iload_n 1 (pc' := 1) hC dX4_knows_0 rfl rfl ?_
  refine j_if_lt (tgt := 17) (pc' := 4) hC dX4_knows_1 (by decide) rfl (fun c1 => ?_) (fun c1 => ?_)
  · have h := jit_t c1 h
    refine j_iconst (v := 0) (pc' := 18) hC dX4_knows_17 rfl rfl ?_
    have q8 := jinj1 h
    subst q8
    exact j_zret hC dX4_knows_18 (by decide)
  · have h := jit_f c1 h
    refine j_iload_n 1 (pc' := 5) hC dX4_knows_4 rfl rfl ?_
    refine j_aload_n 0 (pc' := 6) hC dX4_knows_5 rfl rfl ?_
    refine j_getr' (o2 := 2) (pc' := 9) hC dX4_knows_6 rfl fi_X4_9 gx1 rfl ?_
    refine j_alen0 (v := (6 : Int32)) (pc' := 10) hC dX4_knows_9 rfl gx2 rfl ?_
    refine j_icmp_ge (tgt := 17) (pc' := 13) hC dX4_knows_10 (by decide) rfl (fun c2 => ?_) (fun c2 => ?_)
    · have h := jit_t c2 h
      refine j_iconst (v := 0) (pc' := 18) hC dX4_knows_17 rfl rfl ?_
      have q8 := jinj1 h
      subst q8
      exact j_zret hC dX4_knows_18 (by decide)
    · have h := jit_f c2 h
      refine j_iconst (v := 1) (pc' := 14) hC dX4_knows_13 rfl rfl ?_
      refine j_goto (tgt := 18) (pc' := 0) hC dX4_knows_14 (by decide) ?_
      have q8 := jinj1 h
      subst q8
      exact j_zret hC dX4_knows_18 (by decide)
theorem lp_J7_fill_53178_L5_b {Γ : jG} {G : List (Nat × Nat)} {Rf : Nat → Nat → Option Nat} (hC : jOK Γ cJ7_fill_53178 4 RJ7 (none) { frames := 0, cells := 0, slots := 0, locals := 0 }) {Q : State → Prop} (o0 : Nat) (n0 : Nat) (ho0 : G[o0]? = some (0, n0)) (rec : Int32 → Int32 → Int32 → jM → Option (Int32 × jM)) (ih : ∀ (x1 : Int32) (x2 : Int32) (x3 : Int32) (M : jM) (e2 : Int32) (Me : jM), rec x1 x2 x3 M = some (e2, Me) → jJ Γ G Rf 20 [(0, .ref (jad Γ o0)), (1, .int x1), (2, .int e2), (3, .int x3)] [] Me Q → jJ Γ G Rf 5 [(0, .ref (jad Γ o0)), (1, .int x1), (2, .int x2), (3, .int x3)] [] M Q) (x1 : Int32) (x2 : Int32) (x3 : Int32) (M : jM) (e2 : Int32) (Me : jM) (h : f_J7_fill_53178_L5_b o0 n0 rec x1 x2 x3 M = some (e2, Me)) (hK : jJ Γ G Rf 20 [(0, .ref (jad Γ o0)), (1, .int x1), (2, .int e2), (3, .int x3)] [] Me Q) : jJ Γ G Rf 5 [(0, .ref (jad Γ o0)), (1, .int x1), (2, .int x2), (3, .int x3)] [] M Q := by
  unfold f_J7_fill_53178_L5_b at h
  refine j_iload_n 2 (pc' := 6) hC dJ7_fill_53178_5 rfl rfl ?_
  refine j_iload_n 3 (pc' := 7) hC dJ7_fill_53178_6 rfl rfl ?_
  refine j_icmp_ge (tgt := 20) (pc' := 10) hC dJ7_fill_53178_7 (by decide) rfl (fun c1 => ?_) (fun c1 => ?_)
  · have h := jit_t c1 h
    obtain ⟨q0, q1⟩ := jinj2 h
    subst q0
    subst q1
    refine j_sub [0, 1, 2, 3] rfl ?_
    exact hK
  · have h := jit_f c1 h
    refine j_aload_n 0 (pc' := 11) hC dJ7_fill_53178_10 rfl rfl ?_
    refine j_iload_n 2 (pc' := 12) hC dJ7_fill_53178_11 rfl rfl ?_
    refine j_iload_n 1 (pc' := 13) hC dJ7_fill_53178_12 rfl rfl ?_
    obtain ⟨g2, h⟩ := jg_s h
    obtain ⟨M3, eM3, h⟩ := jlet_s h
    refine j_iast' (pc' := 14) hC dJ7_fill_53178_13 rfl ho0 g2 eM3 ?_
    obtain ⟨v4, ev4, h⟩ := jlet_s h
    refine j_iinc' 2 (c := 1) (pc' := 17) hC dJ7_fill_53178_14 rfl rfl rfl ev4 (by decide) rfl ?_
    refine j_goto (tgt := 5) (pc' := 0) hC dJ7_fill_53178_17 (by decide) ?_
    refine j_sub [1, 2, 0, 3] rfl ?_
    exact ih _ _ _ _ _ _ h hK
theorem lp_J7_fill_53178_L5 {Γ : jG} {G : List (Nat × Nat)} {Rf : Nat → Nat → Option Nat} (hC : jOK Γ cJ7_fill_53178 4 RJ7 (none) { frames := 0, cells := 0, slots := 0, locals := 0 }) {Q : State → Prop} (o0 : Nat) (n0 : Nat) (ho0 : G[o0]? = some (0, n0)) : ∀ (n : Nat) (x1 : Int32) (x2 : Int32) (x3 : Int32) (M : jM) (e2 : Int32) (Me : jM), f_J7_fill_53178_L5 o0 n0 n x1 x2 x3 M = some (e2, Me) → jJ Γ G Rf 20 [(0, .ref (jad Γ o0)), (1, .int x1), (2, .int e2), (3, .int x3)] [] Me Q → jJ Γ G Rf 5 [(0, .ref (jad Γ o0)), (1, .int x1), (2, .int x2), (3, .int x3)] [] M Q := by
  intro n
  induction n with
  | zero =>
    intro x1 x2 x3 M e2 Me h hK
    exact jno h
  | succ n ih =>
    intro x1 x2 x3 M e2 Me h hK
    exact lp_J7_fill_53178_L5_b hC o0 n0 ho0 (f_J7_fill_53178_L5 o0 n0 n) ih x1 x2 x3 M e2 Me h hK
theorem t_J7_fill_53178 (l : Launch) (E : jE) {G : List (Nat × Nat)} {Rf : Nat → Nat → Option Nat} {o1 : Nat} {n1 : Nat} {a2 : Int32} (ho1 : G[o1]? = some (0, n1)) {M : jM} {M' : jM} (h : f_J7_fill_53178 o1 n1 a2 M = some M') : jCv l yJ7_fill_53178 cJ7_fill_53178 4 (none) 0 0 E Rf G (fun a _ => [.ref (a o1), .int a2]) M M' := by
  refine jCv_of (own := RJ7) (by decide) rfl (fun _ _ => Nat.le_of_ble_eq_true rfl) ?_
  intro Γ hC
  show jJ Γ G Rf 0 [(0, .ref (jad Γ o1)), (1, .int a2)] [] M (jQv Γ Rf G M')
  unfold f_J7_fill_53178 at h
  refine j_iconst (v := 0) (pc' := 1) hC dJ7_fill_53178_0 rfl rfl ?_
  refine j_istore_n (pc' := 2) hC dJ7_fill_53178_1 rfl rfl (by decide) rfl ?_
  refine j_aload_n 1 (pc' := 3) hC dJ7_fill_53178_2 rfl rfl ?_
  refine j_alen0 (v := (Int32.ofNat n1)) (pc' := 4) hC dJ7_fill_53178_3 rfl ho1 rfl ?_
  obtain ⟨v1, ev1, h⟩ := jlet_s h
  refine j_istore_n (pc' := 5) hC dJ7_fill_53178_4 rfl ev1 (by decide) rfl ?_
  refine j_sub [2, 3, 1, 0] rfl ?_
  obtain ⟨v2, M3, hm4, h⟩ := jb2_s h
  refine lp_J7_fill_53178_L5 hC o1 n1 ho1 jfu a2 (0 : Int32) v1 M v2 M3 hm4 ?_
  have q8 := jinj1 h
  subst q8
  exact j_vret hC dJ7_fill_53178_20
theorem t_X4_begina (l : Launch) (E : jE) {a1 : Int32} {a2 : Int32} {a3 : Int32} {M : jM} {M' : jM} (h : f_X4_begina a1 a2 a3 M = some M') : jCv l yX4_begin cX4_begin 4 (none) 1 23 E RX GX (fun a _ => [.ref (a 1), .int a1, .int a2, .int a3]) M M' := by
  refine jCv_of (own := RX4) (by decide) rfl (fun _ _ => Nat.le_of_ble_eq_true rfl) ?_
  intro Γ hC
  show jJ Γ GX RX 0 [(0, .ref (jad Γ 1)), (1, .int a1), (2, .int a2), (3, .int a3)] [] M (jQv Γ RX GX M')
  unfold f_X4_begina at h
  refine j_aload_n 0 (pc' := 1) hC dX4_begin_0 rfl rfl ?_
  refine j_getr' (o2 := 2) (pc' := 4) hC dX4_begin_1 rfl fi_X4_9 gx1 rfl ?_
  refine j_iload_n 1 (pc' := 5) hC dX4_begin_4 rfl rfl ?_
  refine j_iload_n 2 (pc' := 6) hC dX4_begin_5 rfl rfl ?_
  obtain ⟨g1, h⟩ := jg_s h
  obtain ⟨M2, eM2, h⟩ := jlet_s h
  refine j_iast' (pc' := 7) hC dX4_begin_6 rfl gx2 g1 eM2 ?_
  refine j_aload_n 0 (pc' := 8) hC dX4_begin_7 rfl rfl ?_
  refine j_getr' (o2 := 3) (pc' := 11) hC dX4_begin_8 rfl fi_X4_17 gx1 rfl ?_
  refine j_iload_n 1 (pc' := 12) hC dX4_begin_11 rfl rfl ?_
  obtain ⟨g3, h⟩ := jg_s h
  refine j_aald4 (o2 := (4 + a1.toNatClampNeg)) (pc' := 13) hC dX4_begin_12 rfl gx3 g3 (rxc3 g3) ?_
  refine j_iload_n 3 (pc' := 14) hC dX4_begin_13 rfl rfl ?_
  obtain ⟨M4, hc5, h⟩ := jb1_s h
  refine j_callSv [.ref (jad Γ (4 + a1.toNatClampNeg)), .int a3] (pc' := 17) hC dX4_begin_14 rfl (t_J7_fill_53178 _ _ (gxc3 g3) hc5) cs_X4_20 ⟨⟨Nat.le_of_ble_eq_true rfl, Nat.le_of_ble_eq_true rfl⟩, rfl, Nat.le_of_ble_eq_true rfl⟩ rfl rfl ?_
  have q8 := jinj1 h
  subst q8
  exact j_vret hC dX4_begin_17
theorem t_X5_find (l : Launch) (E : jE) {a1 : Int32} {M : jM} {r : Int32} {M' : jM} (h : f_X5_find a1 M = some (r, M')) : jCi l yX5_find cX5_find 2 (some .int) 0 0 E RX GX (fun a _ => [.ref (a 0), .int a1]) M r M' := by
  refine jCi_of (own := RX5) (by decide) rfl (fun _ _ => Nat.le_of_ble_eq_true rfl) ?_
  intro Γ hC
  show jJ Γ GX RX 0 [(0, .ref (jad Γ 0)), (1, .int a1)] [] M (jQi Γ RX GX r M')
  unfold f_X5_find at h
  refine j_aload_n 0 (pc' := 1) hC dX5_find_0 rfl rfl ?_
  refine j_iload_n 1 (pc' := 2) hC dX5_find_1 rfl rfl ?_
  obtain ⟨M1, eM1, h⟩ := jlet_s h
  refine j_puti' (pc' := 5) hC dX5_find_2 rfl fp_X5_63 gx0 eM1 ?_
  refine j_aload_n 0 (pc' := 6) hC dX5_find_5 rfl rfl ?_
  refine j_getr' (o2 := 68) (pc' := 9) hC dX5_find_6 rfl fi_X5_59 gx0 rfl ?_
  refine j_iload_n 1 (pc' := 10) hC dX5_find_9 rfl rfl ?_
  refine j_dup2 (pc' := 11) hC dX5_find_10 rfl rfl rfl ?_
  obtain ⟨g2, h⟩ := jg_s h
  refine j_iald (pc' := 12) hC dX5_find_11 rfl gx68 g2 ?_
  refine j_iconst (v := 1) (pc' := 13) hC dX5_find_12 rfl rfl ?_
  refine j_iadd (pc' := 14) hC dX5_find_13 rfl ?_
  obtain ⟨g3, h⟩ := jg_s h
  obtain ⟨M4, eM4, h⟩ := jlet_s h
  refine j_iast' (pc' := 15) hC dX5_find_14 rfl gx68 g3 eM4 ?_
  refine j_bipush (v := -3) (pc' := 17) hC dX5_find_15 rfl rfl ?_
  obtain ⟨q0, q1⟩ := jinj2 h
  subst q0
  subst q1
  exact j_iret hC dX5_find_17
theorem t_X5_row (l : Launch) (E : jE) {a1 : Int32} {a2 : Int32} {M : jM} {r : Int32} {M' : jM} (h : f_X5_row a1 a2 M = some (r, M')) : jCi l yX5_row cX5_row 3 (some .int) 2 46 E RX GX (fun a _ => [.ref (a 0), .int a1, .int a2]) M r M' := by
  refine jCi_of (own := RX5) (by decide) rfl (fun _ _ => Nat.le_of_ble_eq_true rfl) ?_
  intro Γ hC
  show jJ Γ GX RX 0 [(0, .ref (jad Γ 0)), (1, .int a1), (2, .int a2)] [] M (jQi Γ RX GX r M')
  unfold f_X5_row at h
  refine j_aload_n 0 (pc' := 1) hC dX5_row_0 rfl rfl ?_
  refine j_getr' (o2 := 1) (pc' := 4) hC dX5_row_1 rfl fi_X5_14 gx0 rfl ?_
  refine j_iload_n 1 (pc' := 5) hC dX5_row_4 rfl rfl ?_
  obtain ⟨r1, hc2, h⟩ := jb1_s h
  refine j_callVi [.int a1] (pc' := 8) hC dX5_row_5 rfl (t_X4_knowsa _ _ hc2) gx1 vcl4 cv_X5_77 ⟨⟨Nat.le_of_ble_eq_true rfl, Nat.le_of_ble_eq_true rfl⟩, rfl, Nat.le_of_ble_eq_true rfl⟩ rfl rfl ?_
  refine j_if_eq (tgt := 17) (pc' := 11) hC dX5_row_8 (by decide) rfl (fun c3 => ?_) (fun c3 => ?_)
  · have h := jit_t c3 h
    refine j_iconst (v := -1) (pc' := 18) hC dX5_row_17 rfl rfl ?_
    obtain ⟨q0, q1⟩ := jinj2 h
    subst q0
    subst q1
    exact j_iret hC dX5_row_18
  · have h := jit_f c3 h
    refine j_iload_n 2 (pc' := 12) hC dX5_row_11 rfl rfl ?_
    refine j_bipush (v := 40) (pc' := 14) hC dX5_row_12 rfl rfl ?_
    refine j_icmp_le (tgt := 19) (pc' := 17) hC dX5_row_14 (by decide) rfl (fun c4 => ?_) (fun c4 => ?_)
    · have h := jit_t c4 h
      refine j_iload_n 2 (pc' := 20) hC dX5_row_19 rfl rfl ?_
      refine j_if_ge (tgt := 29) (pc' := 23) hC dX5_row_20 (by decide) rfl (fun c5 => ?_) (fun c5 => ?_)
      · have h := jit_t c5 h
        refine j_aload_n 0 (pc' := 30) hC dX5_row_29 rfl rfl ?_
        refine j_getr' (o2 := 1) (pc' := 33) hC dX5_row_30 rfl fi_X5_14 gx0 rfl ?_
        refine j_iload_n 1 (pc' := 34) hC dX5_row_33 rfl rfl ?_
        refine j_iload_n 2 (pc' := 35) hC dX5_row_34 rfl rfl ?_
        refine j_iconst (v := 0) (pc' := 36) hC dX5_row_35 rfl rfl ?_
        obtain ⟨M6, hc7, h⟩ := jb1_s h
        refine j_callVv [.int a1, .int a2, .int (0 : Int32)] (pc' := 39) hC dX5_row_36 rfl (t_X4_begina _ _ hc7) gx1 vcl4 cv_X5_85 ⟨⟨Nat.le_of_ble_eq_true rfl, Nat.le_of_ble_eq_true rfl⟩, rfl, Nat.le_of_ble_eq_true rfl⟩ rfl rfl ?_
        refine j_iload_n 2 (pc' := 40) hC dX5_row_39 rfl rfl ?_
        obtain ⟨q0, q1⟩ := jinj2 h
        subst q0
        subst q1
        exact j_iret hC dX5_row_40
      · have h := jit_f c5 h
        refine j_aload_n 0 (pc' := 24) hC dX5_row_23 rfl rfl ?_
        refine j_iconst (v := 5) (pc' := 25) hC dX5_row_24 rfl rfl ?_
        obtain ⟨r8, M9, hc10, h⟩ := jb2_s h
        refine j_callVi [.int (5 : Int32)] (pc' := 28) hC dX5_row_25 rfl (t_X5_find _ _ hc10) gx0 vcl5 cv_X5_81 ⟨⟨Nat.le_of_ble_eq_true rfl, Nat.le_of_ble_eq_true rfl⟩, rfl, Nat.le_of_ble_eq_true rfl⟩ rfl rfl ?_
        obtain ⟨q0, q1⟩ := jinj2 h
        subst q0
        subst q1
        exact j_iret hC dX5_row_28
    · have h := jit_f c4 h
      refine j_iconst (v := -1) (pc' := 18) hC dX5_row_17 rfl rfl ?_
      obtain ⟨q0, q1⟩ := jinj2 h
      subst q0
      subst q1
      exact j_iret hC dX5_row_18
theorem t_X4_isTherea (l : Launch) (E : jE) {a1 : Int32} {M : jM} {r : Int32} (h : f_X4_isTherea a1 M = some r) : jCi l yX4_isThere cX4_isThere 2 (some .boolean) 0 0 E RX GX (fun a _ => [.ref (a 1), .int a1]) M r M := by
  refine jCi_of (own := RX4) (by decide) rfl (fun _ _ => Nat.le_of_ble_eq_true rfl) ?_
  intro Γ hC
  show jJ Γ GX RX 0 [(0, .ref (jad Γ 1)), (1, .int a1)] [] M (jQi Γ RX GX r M)
  unfold f_X4_isTherea at h
  refine j_aload_n 0 (pc' := 1) hC dX4_isThere_0 rfl rfl ?_
  refine j_getr' (o2 := 2) (pc' := 4) hC dX4_isThere_1 rfl fi_X4_9 gx1 rfl ?_
  refine j_iload_n 1 (pc' := 5) hC dX4_isThere_4 rfl rfl ?_
  obtain ⟨g1, h⟩ := jg_s h
  refine j_iald (pc' := 6) hC dX4_isThere_5 rfl gx2 g1 ?_
  refine j_iconst (v := -1) (pc' := 7) hC dX4_isThere_6 rfl rfl ?_
  refine j_icmp_eq (tgt := 14) (pc' := 10) hC dX4_isThere_7 (by decide) rfl (fun c2 => ?_) (fun c2 => ?_)
  · have h := jit_t c2 h
    refine j_iconst (v := 0) (pc' := 15) hC dX4_isThere_14 rfl rfl ?_
    have q8 := jinj1 h
    subst q8
    exact j_zret hC dX4_isThere_15 (by decide)
  · have h := jit_f c2 h
    refine j_iconst (v := 1) (pc' := 11) hC dX4_isThere_10 rfl rfl ?_
    refine j_goto (tgt := 15) (pc' := 0) hC dX4_isThere_11 (by decide) ?_
    have q8 := jinj1 h
    subst q8
    exact j_zret hC dX4_isThere_15 (by decide)
theorem t_X5_refusalOfa (l : Launch) (E : jE) {a2 : Int32} {M : jM} {r : Int32} {M' : jM} (h : f_X5_refusalOfa a2 M = some (r, M')) : jCi l yX5_refusalOf cX5_refusalOf 3 (some .int) 1 21 E RX GX (fun a _ => [.ref (a 0), .ref (a 1), .int a2]) M r M' := by
  refine jCi_of (own := RX5) (by decide) rfl (fun _ _ => Nat.le_of_ble_eq_true rfl) ?_
  intro Γ hC
  show jJ Γ GX RX 0 [(0, .ref (jad Γ 0)), (1, .ref (jad Γ 1)), (2, .int a2)] [] M (jQi Γ RX GX r M')
  unfold f_X5_refusalOfa at h
  refine j_aload_n 1 (pc' := 1) hC dX5_refusalOf_0 rfl rfl ?_
  refine j_iload_n 2 (pc' := 2) hC dX5_refusalOf_1 rfl rfl ?_
  obtain ⟨r1, hc2, h⟩ := jb1_s h
  refine j_callVi [.int a2] (pc' := 5) hC dX5_refusalOf_2 rfl (t_X4_knowsa _ _ hc2) gx1 vcl4 cv_X5_77 ⟨⟨Nat.le_of_ble_eq_true rfl, Nat.le_of_ble_eq_true rfl⟩, rfl, Nat.le_of_ble_eq_true rfl⟩ rfl rfl ?_
  refine j_if_ne (tgt := 10) (pc' := 8) hC dX5_refusalOf_5 (by decide) rfl (fun c3 => ?_) (fun c3 => ?_)
  · have h := jit_f c3 h
    refine j_aload_n 1 (pc' := 11) hC dX5_refusalOf_10 rfl rfl ?_
    refine j_iload_n 2 (pc' := 12) hC dX5_refusalOf_11 rfl rfl ?_
    obtain ⟨r4, hc5, h⟩ := jb1_s h
    refine j_callVi [.int a2] (pc' := 15) hC dX5_refusalOf_12 rfl (t_X4_isTherea _ _ hc5) gx1 vcl4 cv_X5_111 ⟨⟨Nat.le_of_ble_eq_true rfl, Nat.le_of_ble_eq_true rfl⟩, rfl, Nat.le_of_ble_eq_true rfl⟩ rfl rfl ?_
    refine j_if_eq (tgt := 22) (pc' := 18) hC dX5_refusalOf_15 (by decide) rfl (fun c6 => ?_) (fun c6 => ?_)
    · have h := jit_t c6 h
      refine j_aload_n 0 (pc' := 23) hC dX5_refusalOf_22 rfl rfl ?_
      refine j_iconst (v := 1) (pc' := 24) hC dX5_refusalOf_23 rfl rfl ?_
      obtain ⟨r7, M8, hc9, h⟩ := jb2_s h
      refine j_callVi [.int (1 : Int32)] (pc' := 27) hC dX5_refusalOf_24 rfl (t_X5_find _ _ hc9) gx0 vcl5 cv_X5_81 ⟨⟨Nat.le_of_ble_eq_true rfl, Nat.le_of_ble_eq_true rfl⟩, rfl, Nat.le_of_ble_eq_true rfl⟩ rfl rfl ?_
      obtain ⟨q0, q1⟩ := jinj2 h
      subst q0
      subst q1
      exact j_iret hC dX5_refusalOf_27
    · have h := jit_f c6 h
      refine j_iconst (v := 0) (pc' := 19) hC dX5_refusalOf_18 rfl rfl ?_
      refine j_goto (tgt := 27) (pc' := 0) hC dX5_refusalOf_19 (by decide) ?_
      obtain ⟨q0, q1⟩ := jinj2 h
      subst q0
      subst q1
      exact j_iret hC dX5_refusalOf_27
  · have h := jit_t c3 h
    refine j_iconst (v := -1) (pc' := 9) hC dX5_refusalOf_8 rfl rfl ?_
    obtain ⟨q0, q1⟩ := jinj2 h
    subst q0
    subst q1
    exact j_iret hC dX5_refusalOf_9
theorem t_X4_reachesa (l : Launch) (E : jE) {a1 : Int32} {a2 : Int32} {a3 : Int32} {M : jM} {r : Int32} (h : f_X4_reachesa a1 a2 a3 M = some r) : jCi l yX4_reaches cX4_reaches 4 (some .boolean) 0 0 E RX GX (fun a _ => [.ref (a 1), .int a1, .int a2, .int a3]) M r M := by
  refine jCi_of (own := RX4) (by decide) rfl (fun _ _ => Nat.le_of_ble_eq_true rfl) ?_
  intro Γ hC
  show jJ Γ GX RX 0 [(0, .ref (jad Γ 1)), (1, .int a1), (2, .int a2), (3, .int a3)] [] M (jQi Γ RX GX r M)
  unfold f_X4_reachesa at h
  refine j_iload_n 2 (pc' := 1) hC dX4_reaches_0 rfl rfl ?_
  refine j_if_lt (tgt := 24) (pc' := 4) hC dX4_reaches_1 (by decide) rfl (fun c1 => ?_) (fun c1 => ?_)
  · have h := jit_t c1 h
    refine j_iconst (v := 0) (pc' := 25) hC dX4_reaches_24 rfl rfl ?_
    have q8 := jinj1 h
    subst q8
    exact j_zret hC dX4_reaches_25 (by decide)
  · have h := jit_f c1 h
    refine j_iload_n 2 (pc' := 5) hC dX4_reaches_4 rfl rfl ?_
    refine j_i2l (pc' := 6) hC dX4_reaches_5 rfl ?_
    refine j_iload_n 3 (pc' := 7) hC dX4_reaches_6 rfl rfl ?_
    refine j_i2l (pc' := 8) hC dX4_reaches_7 rfl ?_
    refine j_ladd (pc' := 9) hC dX4_reaches_8 rfl ?_
    refine j_aload_n 0 (pc' := 10) hC dX4_reaches_9 rfl rfl ?_
    refine j_getr' (o2 := 2) (pc' := 13) hC dX4_reaches_10 rfl fi_X4_9 gx1 rfl ?_
    refine j_iload_n 1 (pc' := 14) hC dX4_reaches_13 rfl rfl ?_
    obtain ⟨g2, h⟩ := jg_s h
    refine j_iald (pc' := 15) hC dX4_reaches_14 rfl gx2 g2 ?_
    refine j_i2l (pc' := 16) hC dX4_reaches_15 rfl ?_
    refine j_lcmp (pc' := 17) hC dX4_reaches_16 rfl ?_
    refine j_if_gt (tgt := 24) (pc' := 20) hC dX4_reaches_17 (by decide) rfl (fun c3 => ?_) (fun c3 => ?_)
    · have h := jit_t c3 h
      refine j_iconst (v := 0) (pc' := 25) hC dX4_reaches_24 rfl rfl ?_
      have q8 := jinj1 h
      subst q8
      exact j_zret hC dX4_reaches_25 (by decide)
    · have h := jit_f c3 h
      refine j_iconst (v := 1) (pc' := 21) hC dX4_reaches_20 rfl rfl ?_
      refine j_goto (tgt := 25) (pc' := 0) hC dX4_reaches_21 (by decide) ?_
      have q8 := jinj1 h
      subst q8
      exact j_zret hC dX4_reaches_25 (by decide)
theorem t_X5_refusalOfPlacea (l : Launch) (E : jE) {a2 : Int32} {a3 : Int32} {M : jM} {r : Int32} {M' : jM} (h : f_X5_refusalOfPlacea a2 a3 M = some (r, M')) : jCi l yX5_refusalOfPlace cX5_refusalOfPlace 5 (some .int) 2 43 E RX GX (fun a _ => [.ref (a 0), .ref (a 1), .int a2, .int a3]) M r M' := by
  refine jCi_of (own := RX5) (by decide) rfl (fun _ _ => Nat.le_of_ble_eq_true rfl) ?_
  intro Γ hC
  show jJ Γ GX RX 0 [(0, .ref (jad Γ 0)), (1, .ref (jad Γ 1)), (2, .int a2), (3, .int a3)] [] M (jQi Γ RX GX r M')
  unfold f_X5_refusalOfPlacea at h
  refine j_aload_n 0 (pc' := 1) hC dX5_refusalOfPlace_0 rfl rfl ?_
  refine j_aload_n 1 (pc' := 2) hC dX5_refusalOfPlace_1 rfl rfl ?_
  refine j_iload_n 2 (pc' := 3) hC dX5_refusalOfPlace_2 rfl rfl ?_
  obtain ⟨r1, M2, hc3, h⟩ := jb2_s h
  refine j_callVi [.ref (jad Γ 1), .int a2] (pc' := 6) hC dX5_refusalOfPlace_3 rfl (t_X5_refusalOfa _ _ hc3) gx0 vcl5 cv_X5_104 ⟨⟨Nat.le_of_ble_eq_true rfl, Nat.le_of_ble_eq_true rfl⟩, rfl, Nat.le_of_ble_eq_true rfl⟩ rfl rfl ?_
  refine j_istore (pc' := 8) hC dX5_refusalOfPlace_6 rfl rfl (by decide) rfl ?_
  refine j_iload 0 (pc' := 10) hC dX5_refusalOfPlace_8 rfl rfl ?_
  refine j_if_eq (tgt := 16) (pc' := 13) hC dX5_refusalOfPlace_10 (by decide) rfl (fun c4 => ?_) (fun c4 => ?_)
  · have h := jit_t c4 h
    refine j_aload_n 2 (pc' := 17) hC dX5_refusalOfPlace_16 rfl rfl ?_
    refine j_iload_n 3 (pc' := 18) hC dX5_refusalOfPlace_17 rfl rfl ?_
    refine j_iload_n 4 (pc' := 19) hC dX5_refusalOfPlace_18 rfl rfl ?_
    refine j_iconst (v := 1) (pc' := 20) hC dX5_refusalOfPlace_19 rfl rfl ?_
    obtain ⟨r5, hc6, h⟩ := jb1_s h
    refine j_callVi [.int a2, .int a3, .int (1 : Int32)] (pc' := 23) hC dX5_refusalOfPlace_20 rfl (t_X4_reachesa _ _ hc6) gx1 vcl4 cv_X5_114 ⟨⟨Nat.le_of_ble_eq_true rfl, Nat.le_of_ble_eq_true rfl⟩, rfl, Nat.le_of_ble_eq_true rfl⟩ rfl rfl ?_
    refine j_if_eq (tgt := 30) (pc' := 26) hC dX5_refusalOfPlace_23 (by decide) rfl (fun c7 => ?_) (fun c7 => ?_)
    · have h := jit_t c7 h
      refine j_aload_n 1 (pc' := 31) hC dX5_refusalOfPlace_30 rfl rfl ?_
      refine j_iconst (v := 2) (pc' := 32) hC dX5_refusalOfPlace_31 rfl rfl ?_
      obtain ⟨r8, M9, hc10, h⟩ := jb2_s h
      refine j_callVi [.int (2 : Int32)] (pc' := 35) hC dX5_refusalOfPlace_32 rfl (t_X5_find _ _ hc10) gx0 vcl5 cv_X5_81 ⟨⟨Nat.le_of_ble_eq_true rfl, Nat.le_of_ble_eq_true rfl⟩, rfl, Nat.le_of_ble_eq_true rfl⟩ rfl rfl ?_
      obtain ⟨q0, q1⟩ := jinj2 h
      subst q0
      subst q1
      exact j_iret hC dX5_refusalOfPlace_35
    · have h := jit_f c7 h
      refine j_iconst (v := 0) (pc' := 27) hC dX5_refusalOfPlace_26 rfl rfl ?_
      refine j_goto (tgt := 35) (pc' := 0) hC dX5_refusalOfPlace_27 (by decide) ?_
      obtain ⟨q0, q1⟩ := jinj2 h
      subst q0
      subst q1
      exact j_iret hC dX5_refusalOfPlace_35
  · have h := jit_f c4 h
    refine j_iload 0 (pc' := 15) hC dX5_refusalOfPlace_13 rfl rfl ?_
    obtain ⟨q0, q1⟩ := jinj2 h
    subst q0
    subst q1
    exact j_iret hC dX5_refusalOfPlace_15
theorem t_X4_exchangea (l : Launch) (E : jE) {a1 : Int32} {a2 : Int32} {a3 : Int32} {M : jM} {r : Int32} {M' : jM} (h : f_X4_exchangea a1 a2 a3 M = some (r, M')) : jCi l yX4_exchange cX4_exchange 5 (some .int) 0 0 E RX GX (fun a _ => [.ref (a 1), .int a1, .int a2, .int a3]) M r M' := by
  refine jCi_of (own := RX4) (by decide) rfl (fun _ _ => Nat.le_of_ble_eq_true rfl) ?_
  intro Γ hC
  show jJ Γ GX RX 0 [(0, .ref (jad Γ 1)), (1, .int a1), (2, .int a2), (3, .int a3)] [] M (jQi Γ RX GX r M')
  unfold f_X4_exchangea at h
  refine j_aload_n 0 (pc' := 1) hC dX4_exchange_0 rfl rfl ?_
  refine j_getr' (o2 := 3) (pc' := 4) hC dX4_exchange_1 rfl fi_X4_17 gx1 rfl ?_
  refine j_iload_n 1 (pc' := 5) hC dX4_exchange_4 rfl rfl ?_
  obtain ⟨g1, h⟩ := jg_s h
  refine j_aald4 (o2 := (4 + a1.toNatClampNeg)) (pc' := 6) hC dX4_exchange_5 rfl gx3 g1 (rxc3 g1) ?_
  refine j_iload_n 2 (pc' := 7) hC dX4_exchange_6 rfl rfl ?_
  obtain ⟨g2, h⟩ := jg_s h
  refine j_iald (pc' := 8) hC dX4_exchange_7 rfl (gxc3 g1) g2 ?_
  obtain ⟨v3, ev3, h⟩ := jlet_s h
  refine j_istore (pc' := 10) hC dX4_exchange_8 rfl ev3 (by decide) rfl ?_
  refine j_aload_n 1 (pc' := 11) hC dX4_exchange_10 rfl rfl ?_
  refine j_getr' (o2 := 3) (pc' := 14) hC dX4_exchange_11 rfl fi_X4_17 gx1 rfl ?_
  refine j_iload_n 2 (pc' := 15) hC dX4_exchange_14 rfl rfl ?_
  obtain ⟨g4, h⟩ := jg_s h
  refine j_aald4 (o2 := (4 + a1.toNatClampNeg)) (pc' := 16) hC dX4_exchange_15 rfl gx3 g4 (rxc3 g4) ?_
  refine j_iload_n 3 (pc' := 17) hC dX4_exchange_16 rfl rfl ?_
  refine j_iload_n 4 (pc' := 18) hC dX4_exchange_17 rfl rfl ?_
  obtain ⟨g5, h⟩ := jg_s h
  obtain ⟨M6, eM6, h⟩ := jlet_s h
  refine j_iast' (pc' := 19) hC dX4_exchange_18 rfl (gxc3 g4) g5 eM6 ?_
  refine j_iload 0 (pc' := 21) hC dX4_exchange_19 rfl rfl ?_
  obtain ⟨q0, q1⟩ := jinj2 h
  subst q0
  subst q1
  exact j_iret hC dX4_exchange_21
theorem t_X5_tell (l : Launch) (E : jE) {a1 : Int32} {M : jM} {r : Int32} {M' : jM} (h : f_X5_tell a1 M = some (r, M')) : jCi l yX5_tell cX5_tell 2 (some .int) 0 0 E RX GX (fun a _ => [.ref (a 0), .int a1]) M r M' := by
  refine jCi_of (own := RX5) (by decide) rfl (fun _ _ => Nat.le_of_ble_eq_true rfl) ?_
  intro Γ hC
  show jJ Γ GX RX 0 [(0, .ref (jad Γ 0)), (1, .int a1)] [] M (jQi Γ RX GX r M')
  unfold f_X5_tell at h
  refine j_aload_n 0 (pc' := 1) hC dX5_tell_0 rfl rfl ?_
  refine j_iload_n 1 (pc' := 2) hC dX5_tell_1 rfl rfl ?_
  obtain ⟨M1, eM1, h⟩ := jlet_s h
  refine j_puti' (pc' := 5) hC dX5_tell_2 rfl fp_X5_67 gx0 eM1 ?_
  refine j_iconst (v := 1) (pc' := 6) hC dX5_tell_5 rfl rfl ?_
  obtain ⟨q0, q1⟩ := jinj2 h
  subst q0
  subst q1
  exact j_iret hC dX5_tell_6
theorem t_X5_lay (l : Launch) (E : jE) {a1 : Int32} {a2 : Int32} {a3 : Int32} {M : jM} {r : Int32} {M' : jM} (h : f_X5_lay a1 a2 a3 M = some (r, M')) : jCi l yX5_lay cX5_lay 5 (some .int) 3 67 E RX GX (fun a _ => [.ref (a 0), .int a1, .int a2, .int a3]) M r M' := by
  refine jCi_of (own := RX5) (by decide) rfl (fun _ _ => Nat.le_of_ble_eq_true rfl) ?_
  intro Γ hC
  show jJ Γ GX RX 0 [(0, .ref (jad Γ 0)), (1, .int a1), (2, .int a2), (3, .int a3)] [] M (jQi Γ RX GX r M')
  unfold f_X5_lay at h
  refine j_aload_n 0 (pc' := 1) hC dX5_lay_0 rfl rfl ?_
  refine j_aload_n 0 (pc' := 2) hC dX5_lay_1 rfl rfl ?_
  refine j_getr' (o2 := 1) (pc' := 5) hC dX5_lay_2 rfl fi_X5_14 gx0 rfl ?_
  refine j_iload_n 1 (pc' := 6) hC dX5_lay_5 rfl rfl ?_
  refine j_iload_n 2 (pc' := 7) hC dX5_lay_6 rfl rfl ?_
  obtain ⟨r1, M2, hc3, h⟩ := jb2_s h
  refine j_callVi [.ref (jad Γ 1), .int a1, .int a2] (pc' := 10) hC dX5_lay_7 rfl (t_X5_refusalOfPlacea _ _ hc3) gx0 vcl5 cv_X5_89 ⟨⟨Nat.le_of_ble_eq_true rfl, Nat.le_of_ble_eq_true rfl⟩, rfl, Nat.le_of_ble_eq_true rfl⟩ rfl rfl ?_
  refine j_istore (pc' := 12) hC dX5_lay_10 rfl rfl (by decide) rfl ?_
  refine j_iload 0 (pc' := 14) hC dX5_lay_12 rfl rfl ?_
  refine j_if_eq (tgt := 22) (pc' := 17) hC dX5_lay_14 (by decide) rfl (fun c4 => ?_) (fun c4 => ?_)
  · have h := jit_t c4 h
    refine j_aload_n 1 (pc' := 23) hC dX5_lay_22 rfl rfl ?_
    refine j_aload_n 1 (pc' := 24) hC dX5_lay_23 rfl rfl ?_
    refine j_getr' (o2 := 1) (pc' := 27) hC dX5_lay_24 rfl fi_X5_14 gx0 rfl ?_
    refine j_iload_n 2 (pc' := 28) hC dX5_lay_27 rfl rfl ?_
    refine j_iload_n 3 (pc' := 29) hC dX5_lay_28 rfl rfl ?_
    refine j_iload_n 4 (pc' := 30) hC dX5_lay_29 rfl rfl ?_
    obtain ⟨r5, M6, hc7, h⟩ := jb2_s h
    refine j_callVi [.int a1, .int a2, .int a3] (pc' := 33) hC dX5_lay_30 rfl (t_X4_exchangea _ _ hc7) gx1 vcl4 cv_X5_93 ⟨⟨Nat.le_of_ble_eq_true rfl, Nat.le_of_ble_eq_true rfl⟩, rfl, Nat.le_of_ble_eq_true rfl⟩ rfl rfl ?_
    obtain ⟨r8, M9, hc10, h⟩ := jb2_s h
    refine j_callVi [.int r5] (pc' := 36) hC dX5_lay_33 rfl (t_X5_tell _ _ hc10) gx0 vcl5 cv_X5_97 ⟨⟨Nat.le_of_ble_eq_true rfl, Nat.le_of_ble_eq_true rfl⟩, rfl, Nat.le_of_ble_eq_true rfl⟩ rfl rfl ?_
    obtain ⟨q0, q1⟩ := jinj2 h
    subst q0
    subst q1
    exact j_iret hC dX5_lay_36
  · have h := jit_f c4 h
    refine j_iload 0 (pc' := 19) hC dX5_lay_17 rfl rfl ?_
    refine j_goto (tgt := 36) (pc' := 0) hC dX5_lay_19 (by decide) ?_
    obtain ⟨q0, q1⟩ := jinj2 h
    subst q0
    subst q1
    exact j_iret hC dX5_lay_36
theorem t_X5_at (l : Launch) (E : jE) {a1 : Int32} {a2 : Int32} {M : jM} {r : Int32} {M' : jM} (h : f_X5_at a1 a2 M = some (r, M')) : jCi l yX5_at cX5_at 4 (some .int) 3 67 E RX GX (fun a _ => [.ref (a 0), .int a1, .int a2]) M r M' := by
  refine jCi_of (own := RX5) (by decide) rfl (fun _ _ => Nat.le_of_ble_eq_true rfl) ?_
  intro Γ hC
  show jJ Γ GX RX 0 [(0, .ref (jad Γ 0)), (1, .int a1), (2, .int a2)] [] M (jQi Γ RX GX r M')
  unfold f_X5_at at h
  refine j_aload_n 0 (pc' := 1) hC dX5_at_0 rfl rfl ?_
  refine j_aload_n 0 (pc' := 2) hC dX5_at_1 rfl rfl ?_
  refine j_getr' (o2 := 1) (pc' := 5) hC dX5_at_2 rfl fi_X5_14 gx0 rfl ?_
  refine j_iload_n 1 (pc' := 6) hC dX5_at_5 rfl rfl ?_
  refine j_iload_n 2 (pc' := 7) hC dX5_at_6 rfl rfl ?_
  obtain ⟨r1, M2, hc3, h⟩ := jb2_s h
  refine j_callVi [.ref (jad Γ 1), .int a1, .int a2] (pc' := 10) hC dX5_at_7 rfl (t_X5_refusalOfPlacea _ _ hc3) gx0 vcl5 cv_X5_89 ⟨⟨Nat.le_of_ble_eq_true rfl, Nat.le_of_ble_eq_true rfl⟩, rfl, Nat.le_of_ble_eq_true rfl⟩ rfl rfl ?_
  refine j_istore_n (pc' := 11) hC dX5_at_10 rfl rfl (by decide) rfl ?_
  refine j_iload_n 0 (pc' := 12) hC dX5_at_11 rfl rfl ?_
  refine j_if_eq (tgt := 19) (pc' := 15) hC dX5_at_12 (by decide) rfl (fun c4 => ?_) (fun c4 => ?_)
  · have h := jit_t c4 h
    refine j_aload_n 1 (pc' := 20) hC dX5_at_19 rfl rfl ?_
    refine j_aload_n 1 (pc' := 21) hC dX5_at_20 rfl rfl ?_
    refine j_getr' (o2 := 1) (pc' := 24) hC dX5_at_21 rfl fi_X5_14 gx0 rfl ?_
    refine j_getr' (o2 := 3) (pc' := 27) hC dX5_at_24 rfl fi_X5_100 gx1 rfl ?_
    refine j_iload_n 2 (pc' := 28) hC dX5_at_27 rfl rfl ?_
    obtain ⟨g5, h⟩ := jg_s h
    refine j_aald4 (o2 := (4 + a1.toNatClampNeg)) (pc' := 29) hC dX5_at_28 rfl gx3 g5 (rxc3 g5) ?_
    refine j_iload_n 3 (pc' := 30) hC dX5_at_29 rfl rfl ?_
    obtain ⟨g6, h⟩ := jg_s h
    refine j_iald (pc' := 31) hC dX5_at_30 rfl (gxc3 g5) g6 ?_
    obtain ⟨r7, M8, hc9, h⟩ := jb2_s h
    refine j_callVi [.int (gi M2 (4 + a1.toNatClampNeg) a2.toNatClampNeg)] (pc' := 34) hC dX5_at_31 rfl (t_X5_tell _ _ hc9) gx0 vcl5 cv_X5_97 ⟨⟨Nat.le_of_ble_eq_true rfl, Nat.le_of_ble_eq_true rfl⟩, rfl, Nat.le_of_ble_eq_true rfl⟩ rfl rfl ?_
    obtain ⟨q0, q1⟩ := jinj2 h
    subst q0
    subst q1
    exact j_iret hC dX5_at_34
  · have h := jit_f c4 h
    refine j_iload_n 0 (pc' := 16) hC dX5_at_15 rfl rfl ?_
    refine j_goto (tgt := 34) (pc' := 0) hC dX5_at_16 (by decide) ?_
    obtain ⟨q0, q1⟩ := jinj2 h
    subst q0
    subst q1
    exact j_iret hC dX5_at_34
theorem t_X5_tear (l : Launch) (E : jE) {a1 : Int32} {M : jM} {r : Int32} {M' : jM} (h : f_X5_tear a1 M = some (r, M')) : jCi l yX5_tear cX5_tear 3 (some .int) 2 43 E RX GX (fun a _ => [.ref (a 0), .int a1]) M r M' := by
  refine jCi_of (own := RX5) (by decide) rfl (fun _ _ => Nat.le_of_ble_eq_true rfl) ?_
  intro Γ hC
  show jJ Γ GX RX 0 [(0, .ref (jad Γ 0)), (1, .int a1)] [] M (jQi Γ RX GX r M')
  unfold f_X5_tear at h
  refine j_aload_n 0 (pc' := 1) hC dX5_tear_0 rfl rfl ?_
  refine j_aload_n 0 (pc' := 2) hC dX5_tear_1 rfl rfl ?_
  refine j_getr' (o2 := 1) (pc' := 5) hC dX5_tear_2 rfl fi_X5_14 gx0 rfl ?_
  refine j_iload_n 1 (pc' := 6) hC dX5_tear_5 rfl rfl ?_
  obtain ⟨r1, M2, hc3, h⟩ := jb2_s h
  refine j_callVi [.ref (jad Γ 1), .int a1] (pc' := 9) hC dX5_tear_6 rfl (t_X5_refusalOfa _ _ hc3) gx0 vcl5 cv_X5_104 ⟨⟨Nat.le_of_ble_eq_true rfl, Nat.le_of_ble_eq_true rfl⟩, rfl, Nat.le_of_ble_eq_true rfl⟩ rfl rfl ?_
  refine j_istore_n (pc' := 10) hC dX5_tear_9 rfl rfl (by decide) rfl ?_
  refine j_iload_n 0 (pc' := 11) hC dX5_tear_10 rfl rfl ?_
  refine j_if_eq (tgt := 16) (pc' := 14) hC dX5_tear_11 (by decide) rfl (fun c4 => ?_) (fun c4 => ?_)
  · have h := jit_t c4 h
    refine j_aload_n 1 (pc' := 17) hC dX5_tear_16 rfl rfl ?_
    refine j_getr' (o2 := 1) (pc' := 20) hC dX5_tear_17 rfl fi_X5_14 gx0 rfl ?_
    refine j_getr' (o2 := 2) (pc' := 23) hC dX5_tear_20 rfl fi_X5_108 gx1 rfl ?_
    refine j_iload_n 2 (pc' := 24) hC dX5_tear_23 rfl rfl ?_
    refine j_iconst (v := -1) (pc' := 25) hC dX5_tear_24 rfl rfl ?_
    obtain ⟨g5, h⟩ := jg_s h
    obtain ⟨M6, eM6, h⟩ := jlet_s h
    refine j_iast' (pc' := 26) hC dX5_tear_25 rfl gx2 g5 eM6 ?_
    refine j_iconst (v := 1) (pc' := 27) hC dX5_tear_26 rfl rfl ?_
    obtain ⟨q0, q1⟩ := jinj2 h
    subst q0
    subst q1
    exact j_iret hC dX5_tear_27
  · have h := jit_f c4 h
    refine j_iload_n 0 (pc' := 15) hC dX5_tear_14 rfl rfl ?_
    obtain ⟨q0, q1⟩ := jinj2 h
    subst q0
    subst q1
    exact j_iret hC dX5_tear_15
theorem t_X5_copy (l : Launch) (E : jE) {a1 : Int32} {a2 : Int32} {a3 : Int32} {a4 : Int32} {a5 : Int32} {M : jM} {r : Int32} {M' : jM} (h : f_X5_copy a1 a2 a3 a4 a5 M = some (r, M')) : jCi l yX5_copy cX5_copy 6 (some .int) 1 30 E RX GX (fun a _ => [.ref (a 0), .int a1, .int a2, .int a3, .int a4, .int a5]) M r M' := by
  refine jCi_of (own := RX5) (by decide) rfl (fun _ _ => Nat.le_of_ble_eq_true rfl) ?_
  intro Γ hC
  show jJ Γ GX RX 0 [(0, .ref (jad Γ 0)), (1, .int a1), (2, .int a2), (3, .int a3), (4, .int a4), (5, .int a5)] [] M (jQi Γ RX GX r M')
  unfold f_X5_copy at h
  refine j_aload_n 0 (pc' := 1) hC dX5_copy_0 rfl rfl ?_
  refine j_getr' (o2 := 1) (pc' := 4) hC dX5_copy_1 rfl fi_X5_14 gx0 rfl ?_
  refine j_iload_n 1 (pc' := 5) hC dX5_copy_4 rfl rfl ?_
  obtain ⟨r1, hc2, h⟩ := jb1_s h
  refine j_callVi [.int a1] (pc' := 8) hC dX5_copy_5 rfl (t_X4_knowsa _ _ hc2) gx1 vcl4 cv_X5_77 ⟨⟨Nat.le_of_ble_eq_true rfl, Nat.le_of_ble_eq_true rfl⟩, rfl, Nat.le_of_ble_eq_true rfl⟩ rfl rfl ?_
  refine j_if_eq (tgt := 22) (pc' := 11) hC dX5_copy_8 (by decide) rfl (fun c3 => ?_) (fun c3 => ?_)
  · have h := jit_t c3 h
    refine j_iconst (v := -1) (pc' := 23) hC dX5_copy_22 rfl rfl ?_
    obtain ⟨q0, q1⟩ := jinj2 h
    subst q0
    subst q1
    exact j_iret hC dX5_copy_23
  · have h := jit_f c3 h
    refine j_aload_n 0 (pc' := 12) hC dX5_copy_11 rfl rfl ?_
    refine j_getr' (o2 := 1) (pc' := 15) hC dX5_copy_12 rfl fi_X5_14 gx0 rfl ?_
    refine j_iload_n 3 (pc' := 16) hC dX5_copy_15 rfl rfl ?_
    obtain ⟨r4, hc5, h⟩ := jb1_s h
    refine j_callVi [.int a3] (pc' := 19) hC dX5_copy_16 rfl (t_X4_knowsa _ _ hc5) gx1 vcl4 cv_X5_77 ⟨⟨Nat.le_of_ble_eq_true rfl, Nat.le_of_ble_eq_true rfl⟩, rfl, Nat.le_of_ble_eq_true rfl⟩ rfl rfl ?_
    refine j_if_ne (tgt := 24) (pc' := 22) hC dX5_copy_19 (by decide) rfl (fun c6 => ?_) (fun c6 => ?_)
    · have h := jit_f c6 h
      refine j_iload 5 (pc' := 26) hC dX5_copy_24 rfl rfl ?_
      refine j_if_ge (tgt := 35) (pc' := 29) hC dX5_copy_26 (by decide) rfl (fun c7 => ?_) (fun c7 => ?_)
      · have h := jit_t c7 h
        refine j_aload_n 0 (pc' := 36) hC dX5_copy_35 rfl rfl ?_
        refine j_getr' (o2 := 1) (pc' := 39) hC dX5_copy_36 rfl fi_X5_14 gx0 rfl ?_
        refine j_iload_n 1 (pc' := 40) hC dX5_copy_39 rfl rfl ?_
        obtain ⟨r8, hc9, h⟩ := jb1_s h
        refine j_callVi [.int a1] (pc' := 43) hC dX5_copy_40 rfl (t_X4_isTherea _ _ hc9) gx1 vcl4 cv_X5_111 ⟨⟨Nat.le_of_ble_eq_true rfl, Nat.le_of_ble_eq_true rfl⟩, rfl, Nat.le_of_ble_eq_true rfl⟩ rfl rfl ?_
        refine j_if_eq (tgt := 57) (pc' := 46) hC dX5_copy_43 (by decide) rfl (fun c10 => ?_) (fun c10 => ?_)
        · have h := jit_t c10 h
          refine j_aload_n 0 (pc' := 58) hC dX5_copy_57 rfl rfl ?_
          refine j_iconst (v := 1) (pc' := 59) hC dX5_copy_58 rfl rfl ?_
          obtain ⟨r11, M12, hc13, h⟩ := jb2_s h
          refine j_callVi [.int (1 : Int32)] (pc' := 62) hC dX5_copy_59 rfl (t_X5_find _ _ hc13) gx0 vcl5 cv_X5_81 ⟨⟨Nat.le_of_ble_eq_true rfl, Nat.le_of_ble_eq_true rfl⟩, rfl, Nat.le_of_ble_eq_true rfl⟩ rfl rfl ?_
          obtain ⟨q0, q1⟩ := jinj2 h
          subst q0
          subst q1
          exact j_iret hC dX5_copy_62
        · have h := jit_f c10 h
          refine j_aload_n 0 (pc' := 47) hC dX5_copy_46 rfl rfl ?_
          refine j_getr' (o2 := 1) (pc' := 50) hC dX5_copy_47 rfl fi_X5_14 gx0 rfl ?_
          refine j_iload_n 3 (pc' := 51) hC dX5_copy_50 rfl rfl ?_
          obtain ⟨r14, hc15, h⟩ := jb1_s h
          refine j_callVi [.int a3] (pc' := 54) hC dX5_copy_51 rfl (t_X4_isTherea _ _ hc15) gx1 vcl4 cv_X5_111 ⟨⟨Nat.le_of_ble_eq_true rfl, Nat.le_of_ble_eq_true rfl⟩, rfl, Nat.le_of_ble_eq_true rfl⟩ rfl rfl ?_
          refine j_if_ne (tgt := 63) (pc' := 57) hC dX5_copy_54 (by decide) rfl (fun c16 => ?_) (fun c16 => ?_)
          · have h := jit_f c16 h
            refine j_aload_n 0 (pc' := 64) hC dX5_copy_63 rfl rfl ?_
            refine j_getr' (o2 := 1) (pc' := 67) hC dX5_copy_64 rfl fi_X5_14 gx0 rfl ?_
            refine j_iload_n 1 (pc' := 68) hC dX5_copy_67 rfl rfl ?_
            refine j_iload_n 2 (pc' := 69) hC dX5_copy_68 rfl rfl ?_
            refine j_iload 5 (pc' := 71) hC dX5_copy_69 rfl rfl ?_
            obtain ⟨r17, hc18, h⟩ := jb1_s h
            refine j_callVi [.int a1, .int a2, .int a5] (pc' := 74) hC dX5_copy_71 rfl (t_X4_reachesa _ _ hc18) gx1 vcl4 cv_X5_114 ⟨⟨Nat.le_of_ble_eq_true rfl, Nat.le_of_ble_eq_true rfl⟩, rfl, Nat.le_of_ble_eq_true rfl⟩ rfl rfl ?_
            refine j_if_eq (tgt := 92) (pc' := 77) hC dX5_copy_74 (by decide) rfl (fun c19 => ?_) (fun c19 => ?_)
            · have h := jit_t c19 h
              refine j_aload_n 0 (pc' := 93) hC dX5_copy_92 rfl rfl ?_
              refine j_iconst (v := 2) (pc' := 94) hC dX5_copy_93 rfl rfl ?_
              obtain ⟨r20, M21, hc22, h⟩ := jb2_s h
              refine j_callVi [.int (2 : Int32)] (pc' := 97) hC dX5_copy_94 rfl (t_X5_find _ _ hc22) gx0 vcl5 cv_X5_81 ⟨⟨Nat.le_of_ble_eq_true rfl, Nat.le_of_ble_eq_true rfl⟩, rfl, Nat.le_of_ble_eq_true rfl⟩ rfl rfl ?_
              obtain ⟨q0, q1⟩ := jinj2 h
              subst q0
              subst q1
              exact j_iret hC dX5_copy_97
            · have h := jit_f c19 h
              refine j_aload_n 0 (pc' := 78) hC dX5_copy_77 rfl rfl ?_
              refine j_getr' (o2 := 1) (pc' := 81) hC dX5_copy_78 rfl fi_X5_14 gx0 rfl ?_
              refine j_iload_n 3 (pc' := 82) hC dX5_copy_81 rfl rfl ?_
              refine j_iload 4 (pc' := 84) hC dX5_copy_82 rfl rfl ?_
              refine j_iload 5 (pc' := 86) hC dX5_copy_84 rfl rfl ?_
              obtain ⟨r23, hc24, h⟩ := jb1_s h
              refine j_callVi [.int a3, .int a4, .int a5] (pc' := 89) hC dX5_copy_86 rfl (t_X4_reachesa _ _ hc24) gx1 vcl4 cv_X5_114 ⟨⟨Nat.le_of_ble_eq_true rfl, Nat.le_of_ble_eq_true rfl⟩, rfl, Nat.le_of_ble_eq_true rfl⟩ rfl rfl ?_
              refine j_if_ne (tgt := 98) (pc' := 92) hC dX5_copy_89 (by decide) rfl (fun c25 => ?_) (fun c25 => ?_)
              · have h := jit_f c25 h
                refine j_aload_n 0 (pc' := 99) hC dX5_copy_98 rfl rfl ?_
                refine j_getr' (o2 := 1) (pc' := 102) hC dX5_copy_99 rfl fi_X5_14 gx0 rfl ?_
                refine j_getr' (o2 := 3) (pc' := 105) hC dX5_copy_102 rfl fi_X5_100 gx1 rfl ?_
                refine j_iload_n 1 (pc' := 106) hC dX5_copy_105 rfl rfl ?_
                obtain ⟨g26, h⟩ := jg_s h
                refine j_aald4 (o2 := (4 + a1.toNatClampNeg)) (pc' := 107) hC dX5_copy_106 rfl gx3 g26 (rxc3 g26) ?_
                refine j_iload_n 2 (pc' := 108) hC dX5_copy_107 rfl rfl ?_
                refine j_aload_n 0 (pc' := 109) hC dX5_copy_108 rfl rfl ?_
                refine j_getr' (o2 := 1) (pc' := 112) hC dX5_copy_109 rfl fi_X5_14 gx0 rfl ?_
                refine j_getr' (o2 := 3) (pc' := 115) hC dX5_copy_112 rfl fi_X5_100 gx1 rfl ?_
                refine j_iload_n 3 (pc' := 116) hC dX5_copy_115 rfl rfl ?_
                obtain ⟨g27, h⟩ := jg_s h
                refine j_aald4 (o2 := (4 + a3.toNatClampNeg)) (pc' := 117) hC dX5_copy_116 rfl gx3 g27 (rxc3 g27) ?_
                refine j_iload 4 (pc' := 119) hC dX5_copy_117 rfl rfl ?_
                refine j_iload 5 (pc' := 121) hC dX5_copy_119 rfl rfl ?_
                obtain ⟨g28, h⟩ := jg_s h
                obtain ⟨M29, eM29, h⟩ := jlet_s h
                refine j_acopy' (pc' := 124) hC dX5_copy_121 rfl ca_X5_118 (gxc3 g26) (gxc3 g27) g28 ⟨Nat.le_of_ble_eq_true rfl, Nat.le_of_ble_eq_true rfl⟩ eM29 ?_
                refine j_iconst (v := 1) (pc' := 125) hC dX5_copy_124 rfl rfl ?_
                obtain ⟨q0, q1⟩ := jinj2 h
                subst q0
                subst q1
                exact j_iret hC dX5_copy_125
              · have h := jit_t c25 h
                refine j_aload_n 0 (pc' := 93) hC dX5_copy_92 rfl rfl ?_
                refine j_iconst (v := 2) (pc' := 94) hC dX5_copy_93 rfl rfl ?_
                obtain ⟨r30, M31, hc32, h⟩ := jb2_s h
                refine j_callVi [.int (2 : Int32)] (pc' := 97) hC dX5_copy_94 rfl (t_X5_find _ _ hc32) gx0 vcl5 cv_X5_81 ⟨⟨Nat.le_of_ble_eq_true rfl, Nat.le_of_ble_eq_true rfl⟩, rfl, Nat.le_of_ble_eq_true rfl⟩ rfl rfl ?_
                obtain ⟨q0, q1⟩ := jinj2 h
                subst q0
                subst q1
                exact j_iret hC dX5_copy_97
          · have h := jit_t c16 h
            refine j_aload_n 0 (pc' := 58) hC dX5_copy_57 rfl rfl ?_
            refine j_iconst (v := 1) (pc' := 59) hC dX5_copy_58 rfl rfl ?_
            obtain ⟨r33, M34, hc35, h⟩ := jb2_s h
            refine j_callVi [.int (1 : Int32)] (pc' := 62) hC dX5_copy_59 rfl (t_X5_find _ _ hc35) gx0 vcl5 cv_X5_81 ⟨⟨Nat.le_of_ble_eq_true rfl, Nat.le_of_ble_eq_true rfl⟩, rfl, Nat.le_of_ble_eq_true rfl⟩ rfl rfl ?_
            obtain ⟨q0, q1⟩ := jinj2 h
            subst q0
            subst q1
            exact j_iret hC dX5_copy_62
      · have h := jit_f c7 h
        refine j_aload_n 0 (pc' := 30) hC dX5_copy_29 rfl rfl ?_
        refine j_iconst (v := 5) (pc' := 31) hC dX5_copy_30 rfl rfl ?_
        obtain ⟨r36, M37, hc38, h⟩ := jb2_s h
        refine j_callVi [.int (5 : Int32)] (pc' := 34) hC dX5_copy_31 rfl (t_X5_find _ _ hc38) gx0 vcl5 cv_X5_81 ⟨⟨Nat.le_of_ble_eq_true rfl, Nat.le_of_ble_eq_true rfl⟩, rfl, Nat.le_of_ble_eq_true rfl⟩ rfl rfl ?_
        obtain ⟨q0, q1⟩ := jinj2 h
        subst q0
        subst q1
        exact j_iret hC dX5_copy_34
    · have h := jit_t c6 h
      refine j_iconst (v := -1) (pc' := 23) hC dX5_copy_22 rfl rfl ?_
      obtain ⟨q0, q1⟩ := jinj2 h
      subst q0
      subst q1
      exact j_iret hC dX5_copy_23
theorem lp_X4_suma_L5_b {Γ : jG} (hC : jOK Γ cX4_sum 5 RX4 (some .long) { frames := 0, cells := 0, slots := 0, locals := 0 }) {Q : State → Prop} (rec : Int32 → Int64 → Int32 → jM → Option (Int64 × Int32)) (ih : ∀ (x1 : Int32) (x2 : Int64) (x4 : Int32) (M : jM) (e2 : Int64) (e4 : Int32), rec x1 x2 x4 M = some (e2, e4) → jJ Γ GX RX 35 [(0, .ref (jad Γ 1)), (1, .int x1), (2, .long e2), (4, .int e4)] [] M Q → jJ Γ GX RX 5 [(0, .ref (jad Γ 1)), (1, .int x1), (2, .long x2), (4, .int x4)] [] M Q) (x1 : Int32) (x2 : Int64) (x4 : Int32) (M : jM) (e2 : Int64) (e4 : Int32) (h : f_X4_suma_L5_b rec x1 x2 x4 M = some (e2, e4)) (hK : jJ Γ GX RX 35 [(0, .ref (jad Γ 1)), (1, .int x1), (2, .long e2), (4, .int e4)] [] M Q) : jJ Γ GX RX 5 [(0, .ref (jad Γ 1)), (1, .int x1), (2, .long x2), (4, .int x4)] [] M Q := by
  unfold f_X4_suma_L5_b at h
  refine j_iload 3 (pc' := 7) hC dX4_sum_5 rfl rfl ?_
  refine j_aload_n 0 (pc' := 8) hC dX4_sum_7 rfl rfl ?_
  refine j_getr' (o2 := 2) (pc' := 11) hC dX4_sum_8 rfl fi_X4_9 gx1 rfl ?_
  refine j_iload_n 1 (pc' := 12) hC dX4_sum_11 rfl rfl ?_
  obtain ⟨g1, h⟩ := jg_s h
  refine j_iald (pc' := 13) hC dX4_sum_12 rfl gx2 g1 ?_
  refine j_icmp_ge (tgt := 35) (pc' := 16) hC dX4_sum_13 (by decide) rfl (fun c2 => ?_) (fun c2 => ?_)
  · have h := jit_t c2 h
    obtain ⟨q0, q1⟩ := jinj2 h
    subst q0
    subst q1
    refine j_sub [0, 1, 2, 3] rfl ?_
    exact hK
  · have h := jit_f c2 h
    refine j_lload_n 2 (pc' := 17) hC dX4_sum_16 rfl rfl ?_
    refine j_aload_n 0 (pc' := 18) hC dX4_sum_17 rfl rfl ?_
    refine j_getr' (o2 := 3) (pc' := 21) hC dX4_sum_18 rfl fi_X4_17 gx1 rfl ?_
    refine j_iload_n 1 (pc' := 22) hC dX4_sum_21 rfl rfl ?_
    obtain ⟨g3, h⟩ := jg_s h
    refine j_aald4 (o2 := (4 + x1.toNatClampNeg)) (pc' := 23) hC dX4_sum_22 rfl gx3 g3 (rxc3 g3) ?_
    refine j_iload 3 (pc' := 25) hC dX4_sum_23 rfl rfl ?_
    obtain ⟨g4, h⟩ := jg_s h
    refine j_iald (pc' := 26) hC dX4_sum_25 rfl (gxc3 g3) g4 ?_
    refine j_i2l (pc' := 27) hC dX4_sum_26 rfl ?_
    refine j_ladd (pc' := 28) hC dX4_sum_27 rfl ?_
    obtain ⟨v5, ev5, h⟩ := jlet_s h
    refine j_lstore_n (pc' := 29) hC dX4_sum_28 rfl ev5 (by decide) rfl ?_
    obtain ⟨v6, ev6, h⟩ := jlet_s h
    refine j_iinc' 3 (c := 1) (pc' := 32) hC dX4_sum_29 rfl rfl rfl ev6 (by decide) rfl ?_
    refine j_goto (tgt := 5) (pc' := 0) hC dX4_sum_32 (by decide) ?_
    refine j_sub [2, 3, 1, 0] rfl ?_
    exact ih _ _ _ _ _ _ h hK
theorem lp_X4_suma_L5 {Γ : jG} (hC : jOK Γ cX4_sum 5 RX4 (some .long) { frames := 0, cells := 0, slots := 0, locals := 0 }) {Q : State → Prop} : ∀ (n : Nat) (x1 : Int32) (x2 : Int64) (x4 : Int32) (M : jM) (e2 : Int64) (e4 : Int32), f_X4_suma_L5 n x1 x2 x4 M = some (e2, e4) → jJ Γ GX RX 35 [(0, .ref (jad Γ 1)), (1, .int x1), (2, .long e2), (4, .int e4)] [] M Q → jJ Γ GX RX 5 [(0, .ref (jad Γ 1)), (1, .int x1), (2, .long x2), (4, .int x4)] [] M Q := by
  intro n
  induction n with
  | zero =>
    intro x1 x2 x4 M e2 e4 h hK
    exact jno h
  | succ n ih =>
    intro x1 x2 x4 M e2 e4 h hK
    exact lp_X4_suma_L5_b hC (f_X4_suma_L5 n) ih x1 x2 x4 M e2 e4 h hK
theorem t_X4_suma (l : Launch) (E : jE) {a1 : Int32} {M : jM} {r : Int64} (h : f_X4_suma a1 M = some r) : jCl l yX4_sum cX4_sum 5 (some .long) 0 0 E RX GX (fun a _ => [.ref (a 1), .int a1]) M r M := by
  refine jCl_of (own := RX4) (by decide) rfl (fun _ _ => Nat.le_of_ble_eq_true rfl) ?_
  intro Γ hC
  show jJ Γ GX RX 0 [(0, .ref (jad Γ 1)), (1, .int a1)] [] M (jQl Γ RX GX r M)
  unfold f_X4_suma at h
  refine j_lconst (v := 0) (pc' := 1) hC dX4_sum_0 rfl rfl ?_
  refine j_lstore_n (pc' := 2) hC dX4_sum_1 rfl rfl (by decide) rfl ?_
  refine j_iconst (v := 0) (pc' := 3) hC dX4_sum_2 rfl rfl ?_
  refine j_istore (pc' := 5) hC dX4_sum_3 rfl rfl (by decide) rfl ?_
  refine j_sub [2, 3, 1, 0] rfl ?_
  obtain ⟨v1, v2, hm3, h⟩ := jb2_s h
  refine lp_X4_suma_L5 hC  jfu a1 (0 : Int64) (0 : Int32) M v1 v2 hm3 ?_
  refine j_lload_n 2 (pc' := 36) hC dX4_sum_35 rfl rfl ?_
  have q8 := jinj1 h
  subst q8
  exact j_lret hC dX4_sum_36
theorem t_X5_mean (l : Launch) (E : jE) {a1 : Int32} {M : jM} {r : Int32} {M' : jM} (h : f_X5_mean a1 M = some (r, M')) : jCi l yX5_mean cX5_mean 3 (some .int) 2 43 E RX GX (fun a _ => [.ref (a 0), .int a1]) M r M' := by
  refine jCi_of (own := RX5) (by decide) rfl (fun _ _ => Nat.le_of_ble_eq_true rfl) ?_
  intro Γ hC
  show jJ Γ GX RX 0 [(0, .ref (jad Γ 0)), (1, .int a1)] [] M (jQi Γ RX GX r M')
  unfold f_X5_mean at h
  refine j_aload_n 0 (pc' := 1) hC dX5_mean_0 rfl rfl ?_
  refine j_aload_n 0 (pc' := 2) hC dX5_mean_1 rfl rfl ?_
  refine j_getr' (o2 := 1) (pc' := 5) hC dX5_mean_2 rfl fi_X5_14 gx0 rfl ?_
  refine j_iload_n 1 (pc' := 6) hC dX5_mean_5 rfl rfl ?_
  obtain ⟨r1, M2, hc3, h⟩ := jb2_s h
  refine j_callVi [.ref (jad Γ 1), .int a1] (pc' := 9) hC dX5_mean_6 rfl (t_X5_refusalOfa _ _ hc3) gx0 vcl5 cv_X5_104 ⟨⟨Nat.le_of_ble_eq_true rfl, Nat.le_of_ble_eq_true rfl⟩, rfl, Nat.le_of_ble_eq_true rfl⟩ rfl rfl ?_
  refine j_istore_n (pc' := 10) hC dX5_mean_9 rfl rfl (by decide) rfl ?_
  refine j_iload_n 0 (pc' := 11) hC dX5_mean_10 rfl rfl ?_
  refine j_if_eq (tgt := 16) (pc' := 14) hC dX5_mean_11 (by decide) rfl (fun c4 => ?_) (fun c4 => ?_)
  · have h := jit_t c4 h
    refine j_aload_n 1 (pc' := 17) hC dX5_mean_16 rfl rfl ?_
    refine j_getr' (o2 := 1) (pc' := 20) hC dX5_mean_17 rfl fi_X5_14 gx0 rfl ?_
    refine j_getr' (o2 := 2) (pc' := 23) hC dX5_mean_20 rfl fi_X5_108 gx1 rfl ?_
    refine j_iload_n 2 (pc' := 24) hC dX5_mean_23 rfl rfl ?_
    obtain ⟨g5, h⟩ := jg_s h
    refine j_iald (pc' := 25) hC dX5_mean_24 rfl gx2 g5 ?_
    refine j_if_ne (tgt := 34) (pc' := 28) hC dX5_mean_25 (by decide) rfl (fun c6 => ?_) (fun c6 => ?_)
    · have h := jit_f c6 h
      refine j_aload_n 1 (pc' := 35) hC dX5_mean_34 rfl rfl ?_
      refine j_aload_n 1 (pc' := 36) hC dX5_mean_35 rfl rfl ?_
      refine j_getr' (o2 := 1) (pc' := 39) hC dX5_mean_36 rfl fi_X5_14 gx0 rfl ?_
      refine j_iload_n 2 (pc' := 40) hC dX5_mean_39 rfl rfl ?_
      obtain ⟨r7, hc8, h⟩ := jb1_s h
      refine j_callVl [.int a1] (pc' := 43) hC dX5_mean_40 rfl (t_X4_suma _ _ hc8) gx1 vcl4 cv_X5_124 ⟨⟨Nat.le_of_ble_eq_true rfl, Nat.le_of_ble_eq_true rfl⟩, rfl, Nat.le_of_ble_eq_true rfl⟩ rfl rfl ?_
      refine j_aload_n 1 (pc' := 44) hC dX5_mean_43 rfl rfl ?_
      refine j_getr' (o2 := 1) (pc' := 47) hC dX5_mean_44 rfl fi_X5_14 gx0 rfl ?_
      refine j_getr' (o2 := 2) (pc' := 50) hC dX5_mean_47 rfl fi_X5_108 gx1 rfl ?_
      refine j_iload_n 2 (pc' := 51) hC dX5_mean_50 rfl rfl ?_
      obtain ⟨g9, h⟩ := jg_s h
      refine j_iald (pc' := 52) hC dX5_mean_51 rfl gx2 g9 ?_
      refine j_i2l (pc' := 53) hC dX5_mean_52 rfl ?_
      obtain ⟨g10, h⟩ := jg_s h
      refine j_ldiv (pc' := 54) hC dX5_mean_53 rfl (of_decide_eq_true g10) ?_
      refine j_l2i (pc' := 55) hC dX5_mean_54 rfl ?_
      obtain ⟨r11, M12, hc13, h⟩ := jb2_s h
      refine j_callVi [.int (r7 / (gi M2 2 a1.toNatClampNeg).toInt64).toInt32] (pc' := 58) hC dX5_mean_55 rfl (t_X5_tell _ _ hc13) gx0 vcl5 cv_X5_97 ⟨⟨Nat.le_of_ble_eq_true rfl, Nat.le_of_ble_eq_true rfl⟩, rfl, Nat.le_of_ble_eq_true rfl⟩ rfl rfl ?_
      obtain ⟨q0, q1⟩ := jinj2 h
      subst q0
      subst q1
      exact j_iret hC dX5_mean_58
    · have h := jit_t c6 h
      refine j_aload_n 1 (pc' := 29) hC dX5_mean_28 rfl rfl ?_
      refine j_iconst (v := 4) (pc' := 30) hC dX5_mean_29 rfl rfl ?_
      obtain ⟨r14, M15, hc16, h⟩ := jb2_s h
      refine j_callVi [.int (4 : Int32)] (pc' := 33) hC dX5_mean_30 rfl (t_X5_find _ _ hc16) gx0 vcl5 cv_X5_81 ⟨⟨Nat.le_of_ble_eq_true rfl, Nat.le_of_ble_eq_true rfl⟩, rfl, Nat.le_of_ble_eq_true rfl⟩ rfl rfl ?_
      obtain ⟨q0, q1⟩ := jinj2 h
      subst q0
      subst q1
      exact j_iret hC dX5_mean_33
  · have h := jit_f c4 h
    refine j_iload_n 0 (pc' := 15) hC dX5_mean_14 rfl rfl ?_
    obtain ⟨q0, q1⟩ := jinj2 h
    subst q0
    subst q1
    exact j_iret hC dX5_mean_15
theorem t_X4_knowsb (l : Launch) (E : jE) {a1 : Int32} {M : jM} {r : Int32} (h : f_X4_knowsb a1 M = some r) : jCi l yX4_knows cX4_knows 2 (some .boolean) 0 0 E RX GX (fun a _ => [.ref (a 10), .int a1]) M r M := by
  refine jCi_of (own := RX4) (by decide) rfl (fun _ _ => Nat.le_of_ble_eq_true rfl) ?_
  intro Γ hC
  show jJ Γ GX RX 0 [(0, .ref (jad Γ 10)), (1, .int a1)] [] M (jQi Γ RX GX r M)
  unfold f_X4_knowsb at h
  refine j_iload_n 1 (pc' := 1) hC dX4_knows_0 rfl rfl ?_
  refine j_if_lt (tgt := 17) (pc' := 4) hC dX4_knows_1 (by decide) rfl (fun c1 => ?_) (fun c1 => ?_)
  · have h := jit_t c1 h
    refine j_iconst (v := 0) (pc' := 18) hC dX4_knows_17 rfl rfl ?_
    have q8 := jinj1 h
    subst q8
    exact j_zret hC dX4_knows_18 (by decide)
  · have h := jit_f c1 h
    refine j_iload_n 1 (pc' := 5) hC dX4_knows_4 rfl rfl ?_
    refine j_aload_n 0 (pc' := 6) hC dX4_knows_5 rfl rfl ?_
    refine j_getr' (o2 := 11) (pc' := 9) hC dX4_knows_6 rfl fi_X4_9 gx10 rfl ?_
    refine j_alen0 (v := (4 : Int32)) (pc' := 10) hC dX4_knows_9 rfl gx11 rfl ?_
    refine j_icmp_ge (tgt := 17) (pc' := 13) hC dX4_knows_10 (by decide) rfl (fun c2 => ?_) (fun c2 => ?_)
    · have h := jit_t c2 h
      refine j_iconst (v := 0) (pc' := 18) hC dX4_knows_17 rfl rfl ?_
      have q8 := jinj1 h
      subst q8
      exact j_zret hC dX4_knows_18 (by decide)
    · have h := jit_f c2 h
      refine j_iconst (v := 1) (pc' := 14) hC dX4_knows_13 rfl rfl ?_
      refine j_goto (tgt := 18) (pc' := 0) hC dX4_knows_14 (by decide) ?_
      have q8 := jinj1 h
      subst q8
      exact j_zret hC dX4_knows_18 (by decide)
theorem t_X4_beginb (l : Launch) (E : jE) {a1 : Int32} {a2 : Int32} {a3 : Int32} {M : jM} {M' : jM} (h : f_X4_beginb a1 a2 a3 M = some M') : jCv l yX4_begin cX4_begin 4 (none) 1 23 E RX GX (fun a _ => [.ref (a 10), .int a1, .int a2, .int a3]) M M' := by
  refine jCv_of (own := RX4) (by decide) rfl (fun _ _ => Nat.le_of_ble_eq_true rfl) ?_
  intro Γ hC
  show jJ Γ GX RX 0 [(0, .ref (jad Γ 10)), (1, .int a1), (2, .int a2), (3, .int a3)] [] M (jQv Γ RX GX M')
  unfold f_X4_beginb at h
  refine j_aload_n 0 (pc' := 1) hC dX4_begin_0 rfl rfl ?_
  refine j_getr' (o2 := 11) (pc' := 4) hC dX4_begin_1 rfl fi_X4_9 gx10 rfl ?_
  refine j_iload_n 1 (pc' := 5) hC dX4_begin_4 rfl rfl ?_
  refine j_iload_n 2 (pc' := 6) hC dX4_begin_5 rfl rfl ?_
  obtain ⟨g1, h⟩ := jg_s h
  obtain ⟨M2, eM2, h⟩ := jlet_s h
  refine j_iast' (pc' := 7) hC dX4_begin_6 rfl gx11 g1 eM2 ?_
  refine j_aload_n 0 (pc' := 8) hC dX4_begin_7 rfl rfl ?_
  refine j_getr' (o2 := 12) (pc' := 11) hC dX4_begin_8 rfl fi_X4_17 gx10 rfl ?_
  refine j_iload_n 1 (pc' := 12) hC dX4_begin_11 rfl rfl ?_
  obtain ⟨g3, h⟩ := jg_s h
  refine j_aald4 (o2 := (13 + a1.toNatClampNeg)) (pc' := 13) hC dX4_begin_12 rfl gx12 g3 (rxc12 g3) ?_
  refine j_iload_n 3 (pc' := 14) hC dX4_begin_13 rfl rfl ?_
  obtain ⟨M4, hc5, h⟩ := jb1_s h
  refine j_callSv [.ref (jad Γ (13 + a1.toNatClampNeg)), .int a3] (pc' := 17) hC dX4_begin_14 rfl (t_J7_fill_53178 _ _ (gxc12 g3) hc5) cs_X4_20 ⟨⟨Nat.le_of_ble_eq_true rfl, Nat.le_of_ble_eq_true rfl⟩, rfl, Nat.le_of_ble_eq_true rfl⟩ rfl rfl ?_
  have q8 := jinj1 h
  subst q8
  exact j_vret hC dX4_begin_17
theorem t_X5_text (l : Launch) (E : jE) {a1 : Int32} {a2 : Int32} {M : jM} {r : Int32} {M' : jM} (h : f_X5_text a1 a2 M = some (r, M')) : jCi l yX5_text cX5_text 3 (some .int) 2 46 E RX GX (fun a _ => [.ref (a 0), .int a1, .int a2]) M r M' := by
  refine jCi_of (own := RX5) (by decide) rfl (fun _ _ => Nat.le_of_ble_eq_true rfl) ?_
  intro Γ hC
  show jJ Γ GX RX 0 [(0, .ref (jad Γ 0)), (1, .int a1), (2, .int a2)] [] M (jQi Γ RX GX r M')
  unfold f_X5_text at h
  refine j_aload_n 0 (pc' := 1) hC dX5_text_0 rfl rfl ?_
  refine j_getr' (o2 := 10) (pc' := 4) hC dX5_text_1 rfl fi_X5_18 gx0 rfl ?_
  refine j_iload_n 1 (pc' := 5) hC dX5_text_4 rfl rfl ?_
  obtain ⟨r1, hc2, h⟩ := jb1_s h
  refine j_callVi [.int a1] (pc' := 8) hC dX5_text_5 rfl (t_X4_knowsb _ _ hc2) gx10 vcl4 cv_X5_77 ⟨⟨Nat.le_of_ble_eq_true rfl, Nat.le_of_ble_eq_true rfl⟩, rfl, Nat.le_of_ble_eq_true rfl⟩ rfl rfl ?_
  refine j_if_eq (tgt := 17) (pc' := 11) hC dX5_text_8 (by decide) rfl (fun c3 => ?_) (fun c3 => ?_)
  · have h := jit_t c3 h
    refine j_iconst (v := -1) (pc' := 18) hC dX5_text_17 rfl rfl ?_
    obtain ⟨q0, q1⟩ := jinj2 h
    subst q0
    subst q1
    exact j_iret hC dX5_text_18
  · have h := jit_f c3 h
    refine j_iload_n 2 (pc' := 12) hC dX5_text_11 rfl rfl ?_
    refine j_bipush (v := 80) (pc' := 14) hC dX5_text_12 rfl rfl ?_
    refine j_icmp_le (tgt := 19) (pc' := 17) hC dX5_text_14 (by decide) rfl (fun c4 => ?_) (fun c4 => ?_)
    · have h := jit_t c4 h
      refine j_iload_n 2 (pc' := 20) hC dX5_text_19 rfl rfl ?_
      refine j_if_ge (tgt := 29) (pc' := 23) hC dX5_text_20 (by decide) rfl (fun c5 => ?_) (fun c5 => ?_)
      · have h := jit_t c5 h
        refine j_aload_n 0 (pc' := 30) hC dX5_text_29 rfl rfl ?_
        refine j_getr' (o2 := 10) (pc' := 33) hC dX5_text_30 rfl fi_X5_18 gx0 rfl ?_
        refine j_iload_n 1 (pc' := 34) hC dX5_text_33 rfl rfl ?_
        refine j_iload_n 2 (pc' := 35) hC dX5_text_34 rfl rfl ?_
        refine j_bipush (v := 32) (pc' := 37) hC dX5_text_35 rfl rfl ?_
        obtain ⟨M6, hc7, h⟩ := jb1_s h
        refine j_callVv [.int a1, .int a2, .int (32 : Int32)] (pc' := 40) hC dX5_text_37 rfl (t_X4_beginb _ _ hc7) gx10 vcl4 cv_X5_85 ⟨⟨Nat.le_of_ble_eq_true rfl, Nat.le_of_ble_eq_true rfl⟩, rfl, Nat.le_of_ble_eq_true rfl⟩ rfl rfl ?_
        refine j_iload_n 2 (pc' := 41) hC dX5_text_40 rfl rfl ?_
        obtain ⟨q0, q1⟩ := jinj2 h
        subst q0
        subst q1
        exact j_iret hC dX5_text_41
      · have h := jit_f c5 h
        refine j_aload_n 0 (pc' := 24) hC dX5_text_23 rfl rfl ?_
        refine j_iconst (v := 5) (pc' := 25) hC dX5_text_24 rfl rfl ?_
        obtain ⟨r8, M9, hc10, h⟩ := jb2_s h
        refine j_callVi [.int (5 : Int32)] (pc' := 28) hC dX5_text_25 rfl (t_X5_find _ _ hc10) gx0 vcl5 cv_X5_81 ⟨⟨Nat.le_of_ble_eq_true rfl, Nat.le_of_ble_eq_true rfl⟩, rfl, Nat.le_of_ble_eq_true rfl⟩ rfl rfl ?_
        obtain ⟨q0, q1⟩ := jinj2 h
        subst q0
        subst q1
        exact j_iret hC dX5_text_28
    · have h := jit_f c4 h
      refine j_iconst (v := -1) (pc' := 18) hC dX5_text_17 rfl rfl ?_
      obtain ⟨q0, q1⟩ := jinj2 h
      subst q0
      subst q1
      exact j_iret hC dX5_text_18
theorem t_X4_isThereb (l : Launch) (E : jE) {a1 : Int32} {M : jM} {r : Int32} (h : f_X4_isThereb a1 M = some r) : jCi l yX4_isThere cX4_isThere 2 (some .boolean) 0 0 E RX GX (fun a _ => [.ref (a 10), .int a1]) M r M := by
  refine jCi_of (own := RX4) (by decide) rfl (fun _ _ => Nat.le_of_ble_eq_true rfl) ?_
  intro Γ hC
  show jJ Γ GX RX 0 [(0, .ref (jad Γ 10)), (1, .int a1)] [] M (jQi Γ RX GX r M)
  unfold f_X4_isThereb at h
  refine j_aload_n 0 (pc' := 1) hC dX4_isThere_0 rfl rfl ?_
  refine j_getr' (o2 := 11) (pc' := 4) hC dX4_isThere_1 rfl fi_X4_9 gx10 rfl ?_
  refine j_iload_n 1 (pc' := 5) hC dX4_isThere_4 rfl rfl ?_
  obtain ⟨g1, h⟩ := jg_s h
  refine j_iald (pc' := 6) hC dX4_isThere_5 rfl gx11 g1 ?_
  refine j_iconst (v := -1) (pc' := 7) hC dX4_isThere_6 rfl rfl ?_
  refine j_icmp_eq (tgt := 14) (pc' := 10) hC dX4_isThere_7 (by decide) rfl (fun c2 => ?_) (fun c2 => ?_)
  · have h := jit_t c2 h
    refine j_iconst (v := 0) (pc' := 15) hC dX4_isThere_14 rfl rfl ?_
    have q8 := jinj1 h
    subst q8
    exact j_zret hC dX4_isThere_15 (by decide)
  · have h := jit_f c2 h
    refine j_iconst (v := 1) (pc' := 11) hC dX4_isThere_10 rfl rfl ?_
    refine j_goto (tgt := 15) (pc' := 0) hC dX4_isThere_11 (by decide) ?_
    have q8 := jinj1 h
    subst q8
    exact j_zret hC dX4_isThere_15 (by decide)
theorem t_X5_refusalOfb (l : Launch) (E : jE) {a2 : Int32} {M : jM} {r : Int32} {M' : jM} (h : f_X5_refusalOfb a2 M = some (r, M')) : jCi l yX5_refusalOf cX5_refusalOf 3 (some .int) 1 21 E RX GX (fun a _ => [.ref (a 0), .ref (a 10), .int a2]) M r M' := by
  refine jCi_of (own := RX5) (by decide) rfl (fun _ _ => Nat.le_of_ble_eq_true rfl) ?_
  intro Γ hC
  show jJ Γ GX RX 0 [(0, .ref (jad Γ 0)), (1, .ref (jad Γ 10)), (2, .int a2)] [] M (jQi Γ RX GX r M')
  unfold f_X5_refusalOfb at h
  refine j_aload_n 1 (pc' := 1) hC dX5_refusalOf_0 rfl rfl ?_
  refine j_iload_n 2 (pc' := 2) hC dX5_refusalOf_1 rfl rfl ?_
  obtain ⟨r1, hc2, h⟩ := jb1_s h
  refine j_callVi [.int a2] (pc' := 5) hC dX5_refusalOf_2 rfl (t_X4_knowsb _ _ hc2) gx10 vcl4 cv_X5_77 ⟨⟨Nat.le_of_ble_eq_true rfl, Nat.le_of_ble_eq_true rfl⟩, rfl, Nat.le_of_ble_eq_true rfl⟩ rfl rfl ?_
  refine j_if_ne (tgt := 10) (pc' := 8) hC dX5_refusalOf_5 (by decide) rfl (fun c3 => ?_) (fun c3 => ?_)
  · have h := jit_f c3 h
    refine j_aload_n 1 (pc' := 11) hC dX5_refusalOf_10 rfl rfl ?_
    refine j_iload_n 2 (pc' := 12) hC dX5_refusalOf_11 rfl rfl ?_
    obtain ⟨r4, hc5, h⟩ := jb1_s h
    refine j_callVi [.int a2] (pc' := 15) hC dX5_refusalOf_12 rfl (t_X4_isThereb _ _ hc5) gx10 vcl4 cv_X5_111 ⟨⟨Nat.le_of_ble_eq_true rfl, Nat.le_of_ble_eq_true rfl⟩, rfl, Nat.le_of_ble_eq_true rfl⟩ rfl rfl ?_
    refine j_if_eq (tgt := 22) (pc' := 18) hC dX5_refusalOf_15 (by decide) rfl (fun c6 => ?_) (fun c6 => ?_)
    · have h := jit_t c6 h
      refine j_aload_n 0 (pc' := 23) hC dX5_refusalOf_22 rfl rfl ?_
      refine j_iconst (v := 1) (pc' := 24) hC dX5_refusalOf_23 rfl rfl ?_
      obtain ⟨r7, M8, hc9, h⟩ := jb2_s h
      refine j_callVi [.int (1 : Int32)] (pc' := 27) hC dX5_refusalOf_24 rfl (t_X5_find _ _ hc9) gx0 vcl5 cv_X5_81 ⟨⟨Nat.le_of_ble_eq_true rfl, Nat.le_of_ble_eq_true rfl⟩, rfl, Nat.le_of_ble_eq_true rfl⟩ rfl rfl ?_
      obtain ⟨q0, q1⟩ := jinj2 h
      subst q0
      subst q1
      exact j_iret hC dX5_refusalOf_27
    · have h := jit_f c6 h
      refine j_iconst (v := 0) (pc' := 19) hC dX5_refusalOf_18 rfl rfl ?_
      refine j_goto (tgt := 27) (pc' := 0) hC dX5_refusalOf_19 (by decide) ?_
      obtain ⟨q0, q1⟩ := jinj2 h
      subst q0
      subst q1
      exact j_iret hC dX5_refusalOf_27
  · have h := jit_t c3 h
    refine j_iconst (v := -1) (pc' := 9) hC dX5_refusalOf_8 rfl rfl ?_
    obtain ⟨q0, q1⟩ := jinj2 h
    subst q0
    subst q1
    exact j_iret hC dX5_refusalOf_9
theorem t_X4_reachesb (l : Launch) (E : jE) {a1 : Int32} {a2 : Int32} {a3 : Int32} {M : jM} {r : Int32} (h : f_X4_reachesb a1 a2 a3 M = some r) : jCi l yX4_reaches cX4_reaches 4 (some .boolean) 0 0 E RX GX (fun a _ => [.ref (a 10), .int a1, .int a2, .int a3]) M r M := by
  refine jCi_of (own := RX4) (by decide) rfl (fun _ _ => Nat.le_of_ble_eq_true rfl) ?_
  intro Γ hC
  show jJ Γ GX RX 0 [(0, .ref (jad Γ 10)), (1, .int a1), (2, .int a2), (3, .int a3)] [] M (jQi Γ RX GX r M)
  unfold f_X4_reachesb at h
  refine j_iload_n 2 (pc' := 1) hC dX4_reaches_0 rfl rfl ?_
  refine j_if_lt (tgt := 24) (pc' := 4) hC dX4_reaches_1 (by decide) rfl (fun c1 => ?_) (fun c1 => ?_)
  · have h := jit_t c1 h
    refine j_iconst (v := 0) (pc' := 25) hC dX4_reaches_24 rfl rfl ?_
    have q8 := jinj1 h
    subst q8
    exact j_zret hC dX4_reaches_25 (by decide)
  · have h := jit_f c1 h
    refine j_iload_n 2 (pc' := 5) hC dX4_reaches_4 rfl rfl ?_
    refine j_i2l (pc' := 6) hC dX4_reaches_5 rfl ?_
    refine j_iload_n 3 (pc' := 7) hC dX4_reaches_6 rfl rfl ?_
    refine j_i2l (pc' := 8) hC dX4_reaches_7 rfl ?_
    refine j_ladd (pc' := 9) hC dX4_reaches_8 rfl ?_
    refine j_aload_n 0 (pc' := 10) hC dX4_reaches_9 rfl rfl ?_
    refine j_getr' (o2 := 11) (pc' := 13) hC dX4_reaches_10 rfl fi_X4_9 gx10 rfl ?_
    refine j_iload_n 1 (pc' := 14) hC dX4_reaches_13 rfl rfl ?_
    obtain ⟨g2, h⟩ := jg_s h
    refine j_iald (pc' := 15) hC dX4_reaches_14 rfl gx11 g2 ?_
    refine j_i2l (pc' := 16) hC dX4_reaches_15 rfl ?_
    refine j_lcmp (pc' := 17) hC dX4_reaches_16 rfl ?_
    refine j_if_gt (tgt := 24) (pc' := 20) hC dX4_reaches_17 (by decide) rfl (fun c3 => ?_) (fun c3 => ?_)
    · have h := jit_t c3 h
      refine j_iconst (v := 0) (pc' := 25) hC dX4_reaches_24 rfl rfl ?_
      have q8 := jinj1 h
      subst q8
      exact j_zret hC dX4_reaches_25 (by decide)
    · have h := jit_f c3 h
      refine j_iconst (v := 1) (pc' := 21) hC dX4_reaches_20 rfl rfl ?_
      refine j_goto (tgt := 25) (pc' := 0) hC dX4_reaches_21 (by decide) ?_
      have q8 := jinj1 h
      subst q8
      exact j_zret hC dX4_reaches_25 (by decide)
theorem t_X5_refusalOfPlaceb (l : Launch) (E : jE) {a2 : Int32} {a3 : Int32} {M : jM} {r : Int32} {M' : jM} (h : f_X5_refusalOfPlaceb a2 a3 M = some (r, M')) : jCi l yX5_refusalOfPlace cX5_refusalOfPlace 5 (some .int) 2 43 E RX GX (fun a _ => [.ref (a 0), .ref (a 10), .int a2, .int a3]) M r M' := by
  refine jCi_of (own := RX5) (by decide) rfl (fun _ _ => Nat.le_of_ble_eq_true rfl) ?_
  intro Γ hC
  show jJ Γ GX RX 0 [(0, .ref (jad Γ 0)), (1, .ref (jad Γ 10)), (2, .int a2), (3, .int a3)] [] M (jQi Γ RX GX r M')
  unfold f_X5_refusalOfPlaceb at h
  refine j_aload_n 0 (pc' := 1) hC dX5_refusalOfPlace_0 rfl rfl ?_
  refine j_aload_n 1 (pc' := 2) hC dX5_refusalOfPlace_1 rfl rfl ?_
  refine j_iload_n 2 (pc' := 3) hC dX5_refusalOfPlace_2 rfl rfl ?_
  obtain ⟨r1, M2, hc3, h⟩ := jb2_s h
  refine j_callVi [.ref (jad Γ 10), .int a2] (pc' := 6) hC dX5_refusalOfPlace_3 rfl (t_X5_refusalOfb _ _ hc3) gx0 vcl5 cv_X5_104 ⟨⟨Nat.le_of_ble_eq_true rfl, Nat.le_of_ble_eq_true rfl⟩, rfl, Nat.le_of_ble_eq_true rfl⟩ rfl rfl ?_
  refine j_istore (pc' := 8) hC dX5_refusalOfPlace_6 rfl rfl (by decide) rfl ?_
  refine j_iload 0 (pc' := 10) hC dX5_refusalOfPlace_8 rfl rfl ?_
  refine j_if_eq (tgt := 16) (pc' := 13) hC dX5_refusalOfPlace_10 (by decide) rfl (fun c4 => ?_) (fun c4 => ?_)
  · have h := jit_t c4 h
    refine j_aload_n 2 (pc' := 17) hC dX5_refusalOfPlace_16 rfl rfl ?_
    refine j_iload_n 3 (pc' := 18) hC dX5_refusalOfPlace_17 rfl rfl ?_
    refine j_iload_n 4 (pc' := 19) hC dX5_refusalOfPlace_18 rfl rfl ?_
    refine j_iconst (v := 1) (pc' := 20) hC dX5_refusalOfPlace_19 rfl rfl ?_
    obtain ⟨r5, hc6, h⟩ := jb1_s h
    refine j_callVi [.int a2, .int a3, .int (1 : Int32)] (pc' := 23) hC dX5_refusalOfPlace_20 rfl (t_X4_reachesb _ _ hc6) gx10 vcl4 cv_X5_114 ⟨⟨Nat.le_of_ble_eq_true rfl, Nat.le_of_ble_eq_true rfl⟩, rfl, Nat.le_of_ble_eq_true rfl⟩ rfl rfl ?_
    refine j_if_eq (tgt := 30) (pc' := 26) hC dX5_refusalOfPlace_23 (by decide) rfl (fun c7 => ?_) (fun c7 => ?_)
    · have h := jit_t c7 h
      refine j_aload_n 1 (pc' := 31) hC dX5_refusalOfPlace_30 rfl rfl ?_
      refine j_iconst (v := 2) (pc' := 32) hC dX5_refusalOfPlace_31 rfl rfl ?_
      obtain ⟨r8, M9, hc10, h⟩ := jb2_s h
      refine j_callVi [.int (2 : Int32)] (pc' := 35) hC dX5_refusalOfPlace_32 rfl (t_X5_find _ _ hc10) gx0 vcl5 cv_X5_81 ⟨⟨Nat.le_of_ble_eq_true rfl, Nat.le_of_ble_eq_true rfl⟩, rfl, Nat.le_of_ble_eq_true rfl⟩ rfl rfl ?_
      obtain ⟨q0, q1⟩ := jinj2 h
      subst q0
      subst q1
      exact j_iret hC dX5_refusalOfPlace_35
    · have h := jit_f c7 h
      refine j_iconst (v := 0) (pc' := 27) hC dX5_refusalOfPlace_26 rfl rfl ?_
      refine j_goto (tgt := 35) (pc' := 0) hC dX5_refusalOfPlace_27 (by decide) ?_
      obtain ⟨q0, q1⟩ := jinj2 h
      subst q0
      subst q1
      exact j_iret hC dX5_refusalOfPlace_35
  · have h := jit_f c4 h
    refine j_iload 0 (pc' := 15) hC dX5_refusalOfPlace_13 rfl rfl ?_
    obtain ⟨q0, q1⟩ := jinj2 h
    subst q0
    subst q1
    exact j_iret hC dX5_refusalOfPlace_15
theorem t_X4_exchangeb (l : Launch) (E : jE) {a1 : Int32} {a2 : Int32} {a3 : Int32} {M : jM} {r : Int32} {M' : jM} (h : f_X4_exchangeb a1 a2 a3 M = some (r, M')) : jCi l yX4_exchange cX4_exchange 5 (some .int) 0 0 E RX GX (fun a _ => [.ref (a 10), .int a1, .int a2, .int a3]) M r M' := by
  refine jCi_of (own := RX4) (by decide) rfl (fun _ _ => Nat.le_of_ble_eq_true rfl) ?_
  intro Γ hC
  show jJ Γ GX RX 0 [(0, .ref (jad Γ 10)), (1, .int a1), (2, .int a2), (3, .int a3)] [] M (jQi Γ RX GX r M')
  unfold f_X4_exchangeb at h
  refine j_aload_n 0 (pc' := 1) hC dX4_exchange_0 rfl rfl ?_
  refine j_getr' (o2 := 12) (pc' := 4) hC dX4_exchange_1 rfl fi_X4_17 gx10 rfl ?_
  refine j_iload_n 1 (pc' := 5) hC dX4_exchange_4 rfl rfl ?_
  obtain ⟨g1, h⟩ := jg_s h
  refine j_aald4 (o2 := (13 + a1.toNatClampNeg)) (pc' := 6) hC dX4_exchange_5 rfl gx12 g1 (rxc12 g1) ?_
  refine j_iload_n 2 (pc' := 7) hC dX4_exchange_6 rfl rfl ?_
  obtain ⟨g2, h⟩ := jg_s h
  refine j_iald (pc' := 8) hC dX4_exchange_7 rfl (gxc12 g1) g2 ?_
  obtain ⟨v3, ev3, h⟩ := jlet_s h
  refine j_istore (pc' := 10) hC dX4_exchange_8 rfl ev3 (by decide) rfl ?_
  refine j_aload_n 1 (pc' := 11) hC dX4_exchange_10 rfl rfl ?_
  refine j_getr' (o2 := 12) (pc' := 14) hC dX4_exchange_11 rfl fi_X4_17 gx10 rfl ?_
  refine j_iload_n 2 (pc' := 15) hC dX4_exchange_14 rfl rfl ?_
  obtain ⟨g4, h⟩ := jg_s h
  refine j_aald4 (o2 := (13 + a1.toNatClampNeg)) (pc' := 16) hC dX4_exchange_15 rfl gx12 g4 (rxc12 g4) ?_
  refine j_iload_n 3 (pc' := 17) hC dX4_exchange_16 rfl rfl ?_
  refine j_iload_n 4 (pc' := 18) hC dX4_exchange_17 rfl rfl ?_
  obtain ⟨g5, h⟩ := jg_s h
  obtain ⟨M6, eM6, h⟩ := jlet_s h
  refine j_iast' (pc' := 19) hC dX4_exchange_18 rfl (gxc12 g4) g5 eM6 ?_
  refine j_iload 0 (pc' := 21) hC dX4_exchange_19 rfl rfl ?_
  obtain ⟨q0, q1⟩ := jinj2 h
  subst q0
  subst q1
  exact j_iret hC dX4_exchange_21
theorem t_X5_put (l : Launch) (E : jE) {a1 : Int32} {a2 : Int32} {a3 : Int32} {M : jM} {r : Int32} {M' : jM} (h : f_X5_put a1 a2 a3 M = some (r, M')) : jCi l yX5_put cX5_put 5 (some .int) 3 67 E RX GX (fun a _ => [.ref (a 0), .int a1, .int a2, .int a3]) M r M' := by
  refine jCi_of (own := RX5) (by decide) rfl (fun _ _ => Nat.le_of_ble_eq_true rfl) ?_
  intro Γ hC
  show jJ Γ GX RX 0 [(0, .ref (jad Γ 0)), (1, .int a1), (2, .int a2), (3, .int a3)] [] M (jQi Γ RX GX r M')
  unfold f_X5_put at h
  refine j_aload_n 0 (pc' := 1) hC dX5_put_0 rfl rfl ?_
  refine j_aload_n 0 (pc' := 2) hC dX5_put_1 rfl rfl ?_
  refine j_getr' (o2 := 10) (pc' := 5) hC dX5_put_2 rfl fi_X5_18 gx0 rfl ?_
  refine j_iload_n 1 (pc' := 6) hC dX5_put_5 rfl rfl ?_
  refine j_iload_n 2 (pc' := 7) hC dX5_put_6 rfl rfl ?_
  obtain ⟨r1, M2, hc3, h⟩ := jb2_s h
  refine j_callVi [.ref (jad Γ 10), .int a1, .int a2] (pc' := 10) hC dX5_put_7 rfl (t_X5_refusalOfPlaceb _ _ hc3) gx0 vcl5 cv_X5_89 ⟨⟨Nat.le_of_ble_eq_true rfl, Nat.le_of_ble_eq_true rfl⟩, rfl, Nat.le_of_ble_eq_true rfl⟩ rfl rfl ?_
  refine j_istore (pc' := 12) hC dX5_put_10 rfl rfl (by decide) rfl ?_
  refine j_iload 0 (pc' := 14) hC dX5_put_12 rfl rfl ?_
  refine j_if_eq (tgt := 22) (pc' := 17) hC dX5_put_14 (by decide) rfl (fun c4 => ?_) (fun c4 => ?_)
  · have h := jit_t c4 h
    refine j_aload_n 1 (pc' := 23) hC dX5_put_22 rfl rfl ?_
    refine j_getr' (o2 := 10) (pc' := 26) hC dX5_put_23 rfl fi_X5_18 gx0 rfl ?_
    refine j_iload_n 2 (pc' := 27) hC dX5_put_26 rfl rfl ?_
    refine j_iload_n 3 (pc' := 28) hC dX5_put_27 rfl rfl ?_
    refine j_iload_n 4 (pc' := 29) hC dX5_put_28 rfl rfl ?_
    refine j_i2b (pc' := 30) hC dX5_put_29 rfl ?_
    obtain ⟨r5, M6, hc7, h⟩ := jb2_s h
    refine j_callVi [.int a1, .int a2, .int a3.toInt8.toInt32] (pc' := 33) hC dX5_put_30 rfl (t_X4_exchangeb _ _ hc7) gx10 vcl4 cv_X5_93 ⟨⟨Nat.le_of_ble_eq_true rfl, Nat.le_of_ble_eq_true rfl⟩, rfl, Nat.le_of_ble_eq_true rfl⟩ rfl rfl ?_
    refine j_sipush (v := 1000) (pc' := 36) hC dX5_put_33 rfl rfl ?_
    refine j_iadd (pc' := 37) hC dX5_put_36 rfl ?_
    obtain ⟨q0, q1⟩ := jinj2 h
    subst q0
    subst q1
    exact j_iret hC dX5_put_37
  · have h := jit_f c4 h
    refine j_iload 0 (pc' := 19) hC dX5_put_17 rfl rfl ?_
    refine j_goto (tgt := 37) (pc' := 0) hC dX5_put_19 (by decide) ?_
    obtain ⟨q0, q1⟩ := jinj2 h
    subst q0
    subst q1
    exact j_iret hC dX5_put_37
theorem t_X2_cleard (l : Launch) (E : jE) {M : jM} {M' : jM} (h : f_X2_cleard M = some M') : jCv l yX2_clear cX2_clear 1 (none) 0 0 E RX GX (fun a _ => [.ref (a 18)]) M M' := by
  refine jCv_of (own := RX2) (by decide) rfl (fun _ _ => Nat.le_of_ble_eq_true rfl) ?_
  intro Γ hC
  show jJ Γ GX RX 0 [(0, .ref (jad Γ 18))] [] M (jQv Γ RX GX M')
  unfold f_X2_cleard at h
  refine j_aload_n 0 (pc' := 1) hC dX2_clear_0 rfl rfl ?_
  refine j_iconst (v := 0) (pc' := 2) hC dX2_clear_1 rfl rfl ?_
  obtain ⟨M1, eM1, h⟩ := jlet_s h
  refine j_puti' (pc' := 5) hC dX2_clear_2 rfl fp_X2_9 gx18 eM1 ?_
  refine j_aload_n 0 (pc' := 6) hC dX2_clear_5 rfl rfl ?_
  refine j_iconst (v := 0) (pc' := 7) hC dX2_clear_6 rfl rfl ?_
  obtain ⟨M2, eM2, h⟩ := jlet_s h
  refine j_puti' (pc' := 10) hC dX2_clear_7 rfl fp_X2_15 gx18 eM2 ?_
  have q8 := jinj1 h
  subst q8
  exact j_vret hC dX2_clear_10
theorem lp_X3_skipBlanks_L0_b {Γ : jG} (hC : jOK Γ cX3_skipBlanks 1 RX3 (none) { frames := 0, cells := 0, slots := 0, locals := 0 }) {Q : State → Prop} (rec : jM → Option (jM)) (ih : ∀ (M : jM) (Me : jM), rec  M = some Me → jJ Γ GX RX 38 [(0, .ref (jad Γ 17))] [] Me Q → jJ Γ GX RX 0 [(0, .ref (jad Γ 17))] [] M Q) (M : jM) (Me : jM) (h : f_X3_skipBlanks_L0_b rec  M = some Me) (hK : jJ Γ GX RX 38 [(0, .ref (jad Γ 17))] [] Me Q) : jJ Γ GX RX 0 [(0, .ref (jad Γ 17))] [] M Q := by
  unfold f_X3_skipBlanks_L0_b at h
  refine j_aload_n 0 (pc' := 1) hC dX3_skipBlanks_0 rfl rfl ?_
  refine j_geti' (pc' := 4) hC dX3_skipBlanks_1 rfl fi_X3_26 gx17 ?_
  refine j_aload_n 0 (pc' := 5) hC dX3_skipBlanks_4 rfl rfl ?_
  refine j_geti' (pc' := 8) hC dX3_skipBlanks_5 rfl fi_X3_22 gx17 ?_
  refine j_icmp_ge (tgt := 38) (pc' := 11) hC dX3_skipBlanks_8 (by decide) rfl (fun c1 => ?_) (fun c1 => ?_)
  · have h := jit_t c1 h
    have q8 := jinj1 h
    subst q8
    refine j_sub [0] rfl ?_
    exact hK
  · have h := jit_f c1 h
    refine j_aload_n 0 (pc' := 12) hC dX3_skipBlanks_11 rfl rfl ?_
    obtain ⟨g2, h⟩ := jg_s h
    obtain ⟨g3, h⟩ := jg_s h
    refine j_getq' (pc' := 15) hC dX3_skipBlanks_12 rfl fi_X3_18 gx17 (of_decide_eq_true g2) ?_
    refine j_aload_n 0 (pc' := 16) hC dX3_skipBlanks_15 rfl rfl ?_
    refine j_geti' (pc' := 19) hC dX3_skipBlanks_16 rfl fi_X3_26 gx17 ?_
    obtain ⟨g4, h⟩ := jg_s h
    refine j_iald (pc' := 20) hC dX3_skipBlanks_19 rfl (of_decide_eq_true g3) g4 ?_
    refine j_bipush (v := 32) (pc' := 22) hC dX3_skipBlanks_20 rfl rfl ?_
    refine j_icmp_ne (tgt := 38) (pc' := 25) hC dX3_skipBlanks_22 (by decide) rfl (fun c5 => ?_) (fun c5 => ?_)
    · have h := jit_f c5 h
      have q8 := jinj1 h
      subst q8
      refine j_sub [0] rfl ?_
      exact hK
    · have h := jit_t c5 h
      refine j_aload_n 0 (pc' := 26) hC dX3_skipBlanks_25 rfl rfl ?_
      refine j_dup (pc' := 27) hC dX3_skipBlanks_26 rfl rfl ?_
      refine j_geti' (pc' := 30) hC dX3_skipBlanks_27 rfl fi_X3_26 gx17 ?_
      refine j_iconst (v := 1) (pc' := 31) hC dX3_skipBlanks_30 rfl rfl ?_
      refine j_iadd (pc' := 32) hC dX3_skipBlanks_31 rfl ?_
      obtain ⟨M6, eM6, h⟩ := jlet_s h
      refine j_puti' (pc' := 35) hC dX3_skipBlanks_32 rfl fp_X3_26 gx17 eM6 ?_
      refine j_goto (tgt := 0) (pc' := 0) hC dX3_skipBlanks_35 (by decide) ?_
      refine j_sub [0] rfl ?_
      exact ih _ _ h hK
theorem lp_X3_skipBlanks_L0 {Γ : jG} (hC : jOK Γ cX3_skipBlanks 1 RX3 (none) { frames := 0, cells := 0, slots := 0, locals := 0 }) {Q : State → Prop} : ∀ (n : Nat) (M : jM) (Me : jM), f_X3_skipBlanks_L0 n  M = some Me → jJ Γ GX RX 38 [(0, .ref (jad Γ 17))] [] Me Q → jJ Γ GX RX 0 [(0, .ref (jad Γ 17))] [] M Q := by
  intro n
  induction n with
  | zero =>
    intro  M Me h hK
    exact jno h
  | succ n ih =>
    intro  M Me h hK
    exact lp_X3_skipBlanks_L0_b hC (f_X3_skipBlanks_L0 n) ih  M Me h hK
theorem t_X3_skipBlanks (l : Launch) (E : jE) {M : jM} {M' : jM} (h : f_X3_skipBlanks M = some M') : jCv l yX3_skipBlanks cX3_skipBlanks 1 (none) 0 0 E RX GX (fun a _ => [.ref (a 17)]) M M' := by
  refine jCv_of (own := RX3) (by decide) rfl (fun _ _ => Nat.le_of_ble_eq_true rfl) ?_
  intro Γ hC
  show jJ Γ GX RX 0 [(0, .ref (jad Γ 17))] [] M (jQv Γ RX GX M')
  unfold f_X3_skipBlanks at h
  refine j_sub [0] rfl ?_
  obtain ⟨M1, hm2, h⟩ := jb1_s h
  refine lp_X3_skipBlanks_L0 hC  jfu M M1 hm2 ?_
  have q8 := jinj1 h
  subst q8
  exact j_vret hC dX3_skipBlanks_38
theorem t_X3_nextBetween (l : Launch) (E : jE) {a1 : Int32} {a2 : Int32} {M : jM} {r : Int32} (h : f_X3_nextBetween a1 a2 M = some r) : jCi l yX3_nextBetween cX3_nextBetween 3 (some .int) 0 0 E RX GX (fun a _ => [.ref (a 17), .int a1, .int a2]) M r M := by
  refine jCi_of (own := RX3) (by decide) rfl (fun _ _ => Nat.le_of_ble_eq_true rfl) ?_
  intro Γ hC
  show jJ Γ GX RX 0 [(0, .ref (jad Γ 17)), (1, .int a1), (2, .int a2)] [] M (jQi Γ RX GX r M)
  unfold f_X3_nextBetween at h
  refine j_aload_n 0 (pc' := 1) hC dX3_nextBetween_0 rfl rfl ?_
  refine j_geti' (pc' := 4) hC dX3_nextBetween_1 rfl fi_X3_26 gx17 ?_
  refine j_aload_n 0 (pc' := 5) hC dX3_nextBetween_4 rfl rfl ?_
  refine j_geti' (pc' := 8) hC dX3_nextBetween_5 rfl fi_X3_22 gx17 ?_
  refine j_icmp_ge (tgt := 37) (pc' := 11) hC dX3_nextBetween_8 (by decide) rfl (fun c1 => ?_) (fun c1 => ?_)
  · have h := jit_t c1 h
    refine j_bipush (v := -9) (pc' := 39) hC dX3_nextBetween_37 rfl rfl ?_
    have q8 := jinj1 h
    subst q8
    exact j_iret hC dX3_nextBetween_39
  · have h := jit_f c1 h
    refine j_aload_n 0 (pc' := 12) hC dX3_nextBetween_11 rfl rfl ?_
    obtain ⟨g2, h⟩ := jg_s h
    obtain ⟨g3, h⟩ := jg_s h
    refine j_getq' (pc' := 15) hC dX3_nextBetween_12 rfl fi_X3_18 gx17 (of_decide_eq_true g2) ?_
    refine j_aload_n 0 (pc' := 16) hC dX3_nextBetween_15 rfl rfl ?_
    refine j_geti' (pc' := 19) hC dX3_nextBetween_16 rfl fi_X3_26 gx17 ?_
    obtain ⟨g4, h⟩ := jg_s h
    refine j_iald (pc' := 20) hC dX3_nextBetween_19 rfl (of_decide_eq_true g3) g4 ?_
    refine j_iload_n 1 (pc' := 21) hC dX3_nextBetween_20 rfl rfl ?_
    refine j_icmp_lt (tgt := 37) (pc' := 24) hC dX3_nextBetween_21 (by decide) rfl (fun c5 => ?_) (fun c5 => ?_)
    · have h := jit_t c5 h
      refine j_bipush (v := -9) (pc' := 39) hC dX3_nextBetween_37 rfl rfl ?_
      have q8 := jinj1 h
      subst q8
      exact j_iret hC dX3_nextBetween_39
    · have h := jit_f c5 h
      refine j_aload_n 0 (pc' := 25) hC dX3_nextBetween_24 rfl rfl ?_
      obtain ⟨g6, h⟩ := jg_s h
      obtain ⟨g7, h⟩ := jg_s h
      refine j_getq' (pc' := 28) hC dX3_nextBetween_25 rfl fi_X3_18 gx17 (of_decide_eq_true g6) ?_
      refine j_aload_n 0 (pc' := 29) hC dX3_nextBetween_28 rfl rfl ?_
      refine j_geti' (pc' := 32) hC dX3_nextBetween_29 rfl fi_X3_26 gx17 ?_
      obtain ⟨g8, h⟩ := jg_s h
      refine j_iald (pc' := 33) hC dX3_nextBetween_32 rfl (of_decide_eq_true g7) g8 ?_
      refine j_iload_n 2 (pc' := 34) hC dX3_nextBetween_33 rfl rfl ?_
      refine j_icmp_le (tgt := 40) (pc' := 37) hC dX3_nextBetween_34 (by decide) rfl (fun c9 => ?_) (fun c9 => ?_)
      · have h := jit_t c9 h
        refine j_aload_n 0 (pc' := 41) hC dX3_nextBetween_40 rfl rfl ?_
        obtain ⟨g10, h⟩ := jg_s h
        obtain ⟨g11, h⟩ := jg_s h
        refine j_getq' (pc' := 44) hC dX3_nextBetween_41 rfl fi_X3_18 gx17 (of_decide_eq_true g10) ?_
        refine j_aload_n 0 (pc' := 45) hC dX3_nextBetween_44 rfl rfl ?_
        refine j_geti' (pc' := 48) hC dX3_nextBetween_45 rfl fi_X3_26 gx17 ?_
        obtain ⟨g12, h⟩ := jg_s h
        refine j_iald (pc' := 49) hC dX3_nextBetween_48 rfl (of_decide_eq_true g11) g12 ?_
        refine j_iload_n 1 (pc' := 50) hC dX3_nextBetween_49 rfl rfl ?_
        refine j_isub (pc' := 51) hC dX3_nextBetween_50 rfl ?_
        have q8 := jinj1 h
        subst q8
        exact j_iret hC dX3_nextBetween_51
      · have h := jit_f c9 h
        refine j_bipush (v := -9) (pc' := 39) hC dX3_nextBetween_37 rfl rfl ?_
        have q8 := jinj1 h
        subst q8
        exact j_iret hC dX3_nextBetween_39
theorem lp_X3_nextAmongs1_L2_b {Γ : jG} (hC : jOK Γ cX3_nextAmong 3 RX3 (some .int) { frames := 0, cells := 0, slots := 0, locals := 0 }) {Q : State → Prop} (rec : Int32 → jM → Option ((Int32) ⊕ (Int32))) (ih : ∀ (x2 : Int32) (M : jM) (res : (Int32) ⊕ (Int32)), rec x2 M = some res → (∀ (r : Int32), res = .inl r → Q = jQi Γ RX GX r M) → (∀ (e2 : Int32), res = .inr e2 → jJ Γ GX RX 42 [(0, .ref (jad Γ 17)), (1, .ref (jst Γ 1)), (2, .int e2)] [] M Q) → jJ Γ GX RX 2 [(0, .ref (jad Γ 17)), (1, .ref (jst Γ 1)), (2, .int x2)] [] M Q) (x2 : Int32) (M : jM) (res : (Int32) ⊕ (Int32)) (h : f_X3_nextAmongs1_L2_b rec x2 M = some res) (hQ : ∀ (r : Int32), res = .inl r → Q = jQi Γ RX GX r M) (hK : ∀ (e2 : Int32), res = .inr e2 → jJ Γ GX RX 42 [(0, .ref (jad Γ 17)), (1, .ref (jst Γ 1)), (2, .int e2)] [] M Q) : jJ Γ GX RX 2 [(0, .ref (jad Γ 17)), (1, .ref (jst Γ 1)), (2, .int x2)] [] M Q := by
  unfold f_X3_nextAmongs1_L2_b at h
  refine j_iload_n 2 (pc' := 3) hC dX3_nextAmong_2 rfl rfl ?_
  refine j_aload_n 1 (pc' := 4) hC dX3_nextAmong_3 rfl rfl ?_
  refine j_slen 1 (v := 6) (pc' := 5) hC dX3_nextAmong_4 rfl (by decide) rfl ?_
  refine j_icmp_ge (tgt := 42) (pc' := 8) hC dX3_nextAmong_5 (by decide) rfl (fun c1 => ?_) (fun c1 => ?_)
  · have h := jit_t c1 h
    have q8 := jinj1 h
    subst q8
    refine j_sub [0, 1, 2] rfl ?_
    exact hK _ rfl
  · have h := jit_f c1 h
    refine j_aload_n 0 (pc' := 9) hC dX3_nextAmong_8 rfl rfl ?_
    refine j_geti' (pc' := 12) hC dX3_nextAmong_9 rfl fi_X3_26 gx17 ?_
    refine j_aload_n 0 (pc' := 13) hC dX3_nextAmong_12 rfl rfl ?_
    refine j_geti' (pc' := 16) hC dX3_nextAmong_13 rfl fi_X3_22 gx17 ?_
    refine j_icmp_ge (tgt := 42) (pc' := 19) hC dX3_nextAmong_16 (by decide) rfl (fun c2 => ?_) (fun c2 => ?_)
    · have h := jit_t c2 h
      have q8 := jinj1 h
      subst q8
      refine j_sub [0, 1, 2] rfl ?_
      exact hK _ rfl
    · have h := jit_f c2 h
      refine j_aload_n 0 (pc' := 20) hC dX3_nextAmong_19 rfl rfl ?_
      obtain ⟨g3, h⟩ := jg_s h
      obtain ⟨g4, h⟩ := jg_s h
      refine j_getq' (pc' := 23) hC dX3_nextAmong_20 rfl fi_X3_18 gx17 (of_decide_eq_true g3) ?_
      refine j_aload_n 0 (pc' := 24) hC dX3_nextAmong_23 rfl rfl ?_
      refine j_geti' (pc' := 27) hC dX3_nextAmong_24 rfl fi_X3_26 gx17 ?_
      obtain ⟨g5, h⟩ := jg_s h
      refine j_iald (pc' := 28) hC dX3_nextAmong_27 rfl (of_decide_eq_true g4) g5 ?_
      refine j_aload_n 1 (pc' := 29) hC dX3_nextAmong_28 rfl rfl ?_
      refine j_iload_n 2 (pc' := 30) hC dX3_nextAmong_29 rfl rfl ?_
      obtain ⟨g6, h⟩ := jg_s h
      refine j_sldi 1 (pc' := 31) hC dX3_nextAmong_30 rfl (by decide) g6 ?_
      refine j_icmp_ne (tgt := 36) (pc' := 34) hC dX3_nextAmong_31 (by decide) rfl (fun c7 => ?_) (fun c7 => ?_)
      · have h := jit_f c7 h
        obtain ⟨v8, ev8, h⟩ := jlet_s h
        refine j_iinc' 2 (c := 1) (pc' := 39) hC dX3_nextAmong_36 rfl rfl rfl ev8 (by decide) rfl ?_
        refine j_goto (tgt := 2) (pc' := 0) hC dX3_nextAmong_39 (by decide) ?_
        refine j_sub [1, 2, 0] rfl ?_
        exact ih _ _ res h hQ hK
      · have h := jit_t c7 h
        refine j_iload_n 2 (pc' := 35) hC dX3_nextAmong_34 rfl rfl ?_
        have q8 := jinj1 h
        subst q8
        rw [hQ _ rfl]
        exact j_iret hC dX3_nextAmong_35
theorem lp_X3_nextAmongs1_L2 {Γ : jG} (hC : jOK Γ cX3_nextAmong 3 RX3 (some .int) { frames := 0, cells := 0, slots := 0, locals := 0 }) {Q : State → Prop} : ∀ (n : Nat) (x2 : Int32) (M : jM) (res : (Int32) ⊕ (Int32)), f_X3_nextAmongs1_L2 n x2 M = some res → (∀ (r : Int32), res = .inl r → Q = jQi Γ RX GX r M) → (∀ (e2 : Int32), res = .inr e2 → jJ Γ GX RX 42 [(0, .ref (jad Γ 17)), (1, .ref (jst Γ 1)), (2, .int e2)] [] M Q) → jJ Γ GX RX 2 [(0, .ref (jad Γ 17)), (1, .ref (jst Γ 1)), (2, .int x2)] [] M Q := by
  intro n
  induction n with
  | zero =>
    intro x2 M res h hQ hK
    exact jno h
  | succ n ih =>
    intro x2 M res h hQ hK
    exact lp_X3_nextAmongs1_L2_b hC (f_X3_nextAmongs1_L2 n) ih x2 M res h hQ hK
theorem t_X3_nextAmongs1 (l : Launch) (E : jE) {M : jM} {r : Int32} (h : f_X3_nextAmongs1 M = some r) : jCi l yX3_nextAmong cX3_nextAmong 3 (some .int) 0 0 E RX GX (fun a b => [.ref (a 17), .ref (b 1)]) M r M := by
  refine jCi_of (own := RX3) (by decide) rfl (fun _ _ => Nat.le_of_ble_eq_true rfl) ?_
  intro Γ hC
  show jJ Γ GX RX 0 [(0, .ref (jad Γ 17)), (1, .ref (jst Γ 1))] [] M (jQi Γ RX GX r M)
  unfold f_X3_nextAmongs1 at h
  refine j_iconst (v := 0) (pc' := 1) hC dX3_nextAmong_0 rfl rfl ?_
  refine j_istore_n (pc' := 2) hC dX3_nextAmong_1 rfl rfl (by decide) rfl ?_
  refine j_sub [1, 2, 0] rfl ?_
  rcases jr1_s h with hm2 | ⟨v1, hm2, h⟩
  · exact lp_X3_nextAmongs1_L2 hC  jfu (0 : Int32) M _ hm2 (fun _ e => by cases e; rfl) (fun _ e => by cases e)
  · refine lp_X3_nextAmongs1_L2 hC  jfu (0 : Int32) M _ hm2 (fun _ e => by cases e) (fun _ e => ?_)
    cases e
    refine j_bipush (v := -9) (pc' := 44) hC dX3_nextAmong_42 rfl rfl ?_
    have q8 := jinj1 h
    subst q8
    exact j_iret hC dX3_nextAmong_44
theorem t_X3_take (l : Launch) (E : jE) {a1 : Int32} {M : jM} {r : Int32} {M' : jM} (h : f_X3_take a1 M = some (r, M')) : jCi l yX3_take cX3_take 2 (some .int) 0 0 E RX GX (fun a _ => [.ref (a 17), .int a1]) M r M' := by
  refine jCi_of (own := RX3) (by decide) rfl (fun _ _ => Nat.le_of_ble_eq_true rfl) ?_
  intro Γ hC
  show jJ Γ GX RX 0 [(0, .ref (jad Γ 17)), (1, .int a1)] [] M (jQi Γ RX GX r M')
  unfold f_X3_take at h
  refine j_aload_n 0 (pc' := 1) hC dX3_take_0 rfl rfl ?_
  refine j_dup (pc' := 2) hC dX3_take_1 rfl rfl ?_
  refine j_geti' (pc' := 5) hC dX3_take_2 rfl fi_X3_26 gx17 ?_
  refine j_iload_n 1 (pc' := 6) hC dX3_take_5 rfl rfl ?_
  obtain ⟨v2, hm4, h⟩ := jlet_s h
  have K3 : jJ Γ GX RX 14 [(0, .ref (jad Γ 17)), (1, .int a1)] [.int v2, .int (gi M 17 3), .ref (jad Γ 17)] M (jQi Γ RX GX r M') := by
    refine j_iadd (pc' := 15) hC dX3_take_14 rfl ?_
    obtain ⟨M6, eM6, h⟩ := jlet_s h
    refine j_puti' (pc' := 18) hC dX3_take_15 rfl fp_X3_26 gx17 eM6 ?_
    refine j_iload_n 1 (pc' := 19) hC dX3_take_18 rfl rfl ?_
    obtain ⟨q0, q1⟩ := jinj2 h
    subst q0
    subst q1
    exact j_iret hC dX3_take_19
  refine j_if_ge (tgt := 13) (pc' := 9) hC dX3_take_6 (by decide) rfl (fun c5 => ?_) (fun c5 => ?_)
  · have hm4 := jit_t c5 hm4
    refine j_iconst (v := 1) (pc' := 14) hC dX3_take_13 rfl rfl ?_
    subst hm4
    exact j_sub [0, 1] rfl K3
  · have hm4 := jit_f c5 hm4
    refine j_iconst (v := 0) (pc' := 10) hC dX3_take_9 rfl rfl ?_
    refine j_goto (tgt := 14) (pc' := 0) hC dX3_take_10 (by decide) ?_
    subst hm4
    exact j_sub [0, 1] rfl K3
theorem lp_X3_nextAmongs2_L2_b {Γ : jG} (hC : jOK Γ cX3_nextAmong 3 RX3 (some .int) { frames := 0, cells := 0, slots := 0, locals := 0 }) {Q : State → Prop} (rec : Int32 → jM → Option ((Int32) ⊕ (Int32))) (ih : ∀ (x2 : Int32) (M : jM) (res : (Int32) ⊕ (Int32)), rec x2 M = some res → (∀ (r : Int32), res = .inl r → Q = jQi Γ RX GX r M) → (∀ (e2 : Int32), res = .inr e2 → jJ Γ GX RX 42 [(0, .ref (jad Γ 17)), (1, .ref (jst Γ 2)), (2, .int e2)] [] M Q) → jJ Γ GX RX 2 [(0, .ref (jad Γ 17)), (1, .ref (jst Γ 2)), (2, .int x2)] [] M Q) (x2 : Int32) (M : jM) (res : (Int32) ⊕ (Int32)) (h : f_X3_nextAmongs2_L2_b rec x2 M = some res) (hQ : ∀ (r : Int32), res = .inl r → Q = jQi Γ RX GX r M) (hK : ∀ (e2 : Int32), res = .inr e2 → jJ Γ GX RX 42 [(0, .ref (jad Γ 17)), (1, .ref (jst Γ 2)), (2, .int e2)] [] M Q) : jJ Γ GX RX 2 [(0, .ref (jad Γ 17)), (1, .ref (jst Γ 2)), (2, .int x2)] [] M Q := by
  unfold f_X3_nextAmongs2_L2_b at h
  refine j_iload_n 2 (pc' := 3) hC dX3_nextAmong_2 rfl rfl ?_
  refine j_aload_n 1 (pc' := 4) hC dX3_nextAmong_3 rfl rfl ?_
  refine j_slen 2 (v := 3) (pc' := 5) hC dX3_nextAmong_4 rfl (by decide) rfl ?_
  refine j_icmp_ge (tgt := 42) (pc' := 8) hC dX3_nextAmong_5 (by decide) rfl (fun c1 => ?_) (fun c1 => ?_)
  · have h := jit_t c1 h
    have q8 := jinj1 h
    subst q8
    refine j_sub [0, 1, 2] rfl ?_
    exact hK _ rfl
  · have h := jit_f c1 h
    refine j_aload_n 0 (pc' := 9) hC dX3_nextAmong_8 rfl rfl ?_
    refine j_geti' (pc' := 12) hC dX3_nextAmong_9 rfl fi_X3_26 gx17 ?_
    refine j_aload_n 0 (pc' := 13) hC dX3_nextAmong_12 rfl rfl ?_
    refine j_geti' (pc' := 16) hC dX3_nextAmong_13 rfl fi_X3_22 gx17 ?_
    refine j_icmp_ge (tgt := 42) (pc' := 19) hC dX3_nextAmong_16 (by decide) rfl (fun c2 => ?_) (fun c2 => ?_)
    · have h := jit_t c2 h
      have q8 := jinj1 h
      subst q8
      refine j_sub [0, 1, 2] rfl ?_
      exact hK _ rfl
    · have h := jit_f c2 h
      refine j_aload_n 0 (pc' := 20) hC dX3_nextAmong_19 rfl rfl ?_
      obtain ⟨g3, h⟩ := jg_s h
      obtain ⟨g4, h⟩ := jg_s h
      refine j_getq' (pc' := 23) hC dX3_nextAmong_20 rfl fi_X3_18 gx17 (of_decide_eq_true g3) ?_
      refine j_aload_n 0 (pc' := 24) hC dX3_nextAmong_23 rfl rfl ?_
      refine j_geti' (pc' := 27) hC dX3_nextAmong_24 rfl fi_X3_26 gx17 ?_
      obtain ⟨g5, h⟩ := jg_s h
      refine j_iald (pc' := 28) hC dX3_nextAmong_27 rfl (of_decide_eq_true g4) g5 ?_
      refine j_aload_n 1 (pc' := 29) hC dX3_nextAmong_28 rfl rfl ?_
      refine j_iload_n 2 (pc' := 30) hC dX3_nextAmong_29 rfl rfl ?_
      obtain ⟨g6, h⟩ := jg_s h
      refine j_sldi 2 (pc' := 31) hC dX3_nextAmong_30 rfl (by decide) g6 ?_
      refine j_icmp_ne (tgt := 36) (pc' := 34) hC dX3_nextAmong_31 (by decide) rfl (fun c7 => ?_) (fun c7 => ?_)
      · have h := jit_f c7 h
        obtain ⟨v8, ev8, h⟩ := jlet_s h
        refine j_iinc' 2 (c := 1) (pc' := 39) hC dX3_nextAmong_36 rfl rfl rfl ev8 (by decide) rfl ?_
        refine j_goto (tgt := 2) (pc' := 0) hC dX3_nextAmong_39 (by decide) ?_
        refine j_sub [1, 2, 0] rfl ?_
        exact ih _ _ res h hQ hK
      · have h := jit_t c7 h
        refine j_iload_n 2 (pc' := 35) hC dX3_nextAmong_34 rfl rfl ?_
        have q8 := jinj1 h
        subst q8
        rw [hQ _ rfl]
        exact j_iret hC dX3_nextAmong_35
theorem lp_X3_nextAmongs2_L2 {Γ : jG} (hC : jOK Γ cX3_nextAmong 3 RX3 (some .int) { frames := 0, cells := 0, slots := 0, locals := 0 }) {Q : State → Prop} : ∀ (n : Nat) (x2 : Int32) (M : jM) (res : (Int32) ⊕ (Int32)), f_X3_nextAmongs2_L2 n x2 M = some res → (∀ (r : Int32), res = .inl r → Q = jQi Γ RX GX r M) → (∀ (e2 : Int32), res = .inr e2 → jJ Γ GX RX 42 [(0, .ref (jad Γ 17)), (1, .ref (jst Γ 2)), (2, .int e2)] [] M Q) → jJ Γ GX RX 2 [(0, .ref (jad Γ 17)), (1, .ref (jst Γ 2)), (2, .int x2)] [] M Q := by
  intro n
  induction n with
  | zero =>
    intro x2 M res h hQ hK
    exact jno h
  | succ n ih =>
    intro x2 M res h hQ hK
    exact lp_X3_nextAmongs2_L2_b hC (f_X3_nextAmongs2_L2 n) ih x2 M res h hQ hK
theorem t_X3_nextAmongs2 (l : Launch) (E : jE) {M : jM} {r : Int32} (h : f_X3_nextAmongs2 M = some r) : jCi l yX3_nextAmong cX3_nextAmong 3 (some .int) 0 0 E RX GX (fun a b => [.ref (a 17), .ref (b 2)]) M r M := by
  refine jCi_of (own := RX3) (by decide) rfl (fun _ _ => Nat.le_of_ble_eq_true rfl) ?_
  intro Γ hC
  show jJ Γ GX RX 0 [(0, .ref (jad Γ 17)), (1, .ref (jst Γ 2))] [] M (jQi Γ RX GX r M)
  unfold f_X3_nextAmongs2 at h
  refine j_iconst (v := 0) (pc' := 1) hC dX3_nextAmong_0 rfl rfl ?_
  refine j_istore_n (pc' := 2) hC dX3_nextAmong_1 rfl rfl (by decide) rfl ?_
  refine j_sub [1, 2, 0] rfl ?_
  rcases jr1_s h with hm2 | ⟨v1, hm2, h⟩
  · exact lp_X3_nextAmongs2_L2 hC  jfu (0 : Int32) M _ hm2 (fun _ e => by cases e; rfl) (fun _ e => by cases e)
  · refine lp_X3_nextAmongs2_L2 hC  jfu (0 : Int32) M _ hm2 (fun _ e => by cases e) (fun _ e => ?_)
    cases e
    refine j_bipush (v := -9) (pc' := 44) hC dX3_nextAmong_42 rfl rfl ?_
    have q8 := jinj1 h
    subst q8
    exact j_iret hC dX3_nextAmong_44
theorem t_X2_hasDeedd (l : Launch) (E : jE) {a1 : Int32} {M : jM} {r : Int32} (h : f_X2_hasDeedd a1 M = some r) : jCi l yX2_hasDeed cX2_hasDeed 2 (some .boolean) 0 0 E RX GX (fun a _ => [.ref (a 18), .int a1]) M r M := by
  refine jCi_of (own := RX2) (by decide) rfl (fun _ _ => Nat.le_of_ble_eq_true rfl) ?_
  intro Γ hC
  show jJ Γ GX RX 0 [(0, .ref (jad Γ 18)), (1, .int a1)] [] M (jQi Γ RX GX r M)
  unfold f_X2_hasDeedd at h
  refine j_iload_n 1 (pc' := 1) hC dX2_hasDeed_0 rfl rfl ?_
  refine j_if_lt (tgt := 16) (pc' := 4) hC dX2_hasDeed_1 (by decide) rfl (fun c1 => ?_) (fun c1 => ?_)
  · have h := jit_t c1 h
    refine j_iconst (v := 0) (pc' := 17) hC dX2_hasDeed_16 rfl rfl ?_
    have q8 := jinj1 h
    subst q8
    exact j_zret hC dX2_hasDeed_17 (by decide)
  · have h := jit_f c1 h
    refine j_iload_n 1 (pc' := 5) hC dX2_hasDeed_4 rfl rfl ?_
    refine j_aload_n 0 (pc' := 6) hC dX2_hasDeed_5 rfl rfl ?_
    refine j_geti' (pc' := 9) hC dX2_hasDeed_6 rfl fi_X2_9 gx18 ?_
    refine j_icmp_ge (tgt := 16) (pc' := 12) hC dX2_hasDeed_9 (by decide) rfl (fun c2 => ?_) (fun c2 => ?_)
    · have h := jit_t c2 h
      refine j_iconst (v := 0) (pc' := 17) hC dX2_hasDeed_16 rfl rfl ?_
      have q8 := jinj1 h
      subst q8
      exact j_zret hC dX2_hasDeed_17 (by decide)
    · have h := jit_f c2 h
      refine j_iconst (v := 1) (pc' := 13) hC dX2_hasDeed_12 rfl rfl ?_
      refine j_goto (tgt := 17) (pc' := 0) hC dX2_hasDeed_13 (by decide) ?_
      have q8 := jinj1 h
      subst q8
      exact j_zret hC dX2_hasDeed_17 (by decide)
theorem t_X5_isIn (l : Launch) (E : jE) {a1 : Int32} {a2 : Int32} {M : jM} {r : Int32} (h : f_X5_isIn a1 a2 M = some r) : jCi l yX5_isIn cX5_isIn 2 (some .boolean) 0 0 E RX GX (fun _ _ => [.int a1, .int a2]) M r M := by
  refine jCi_of (own := RX5) (by decide) rfl (fun _ _ => Nat.le_of_ble_eq_true rfl) ?_
  intro Γ hC
  show jJ Γ GX RX 0 [(0, .int a1), (1, .int a2)] [] M (jQi Γ RX GX r M)
  unfold f_X5_isIn at h
  refine j_iload_n 0 (pc' := 1) hC dX5_isIn_0 rfl rfl ?_
  refine j_iload_n 1 (pc' := 2) hC dX5_isIn_1 rfl rfl ?_
  refine j_ishr (pc' := 3) hC dX5_isIn_2 rfl ?_
  refine j_iconst (v := 1) (pc' := 4) hC dX5_isIn_3 rfl rfl ?_
  refine j_iand (pc' := 5) hC dX5_isIn_4 rfl ?_
  refine j_iconst (v := 1) (pc' := 6) hC dX5_isIn_5 rfl rfl ?_
  refine j_icmp_ne (tgt := 13) (pc' := 9) hC dX5_isIn_6 (by decide) rfl (fun c1 => ?_) (fun c1 => ?_)
  · have h := jit_f c1 h
    refine j_iconst (v := 0) (pc' := 14) hC dX5_isIn_13 rfl rfl ?_
    have q8 := jinj1 h
    subst q8
    exact j_zret hC dX5_isIn_14 (by decide)
  · have h := jit_t c1 h
    refine j_iconst (v := 1) (pc' := 10) hC dX5_isIn_9 rfl rfl ?_
    refine j_goto (tgt := 14) (pc' := 0) hC dX5_isIn_10 (by decide) ?_
    have q8 := jinj1 h
    subst q8
    exact j_zret hC dX5_isIn_14 (by decide)
theorem lp_X2_addDeedd_L61_b {Γ : jG} (hC : jOK Γ cX2_addDeed 6 RX2 (none) { frames := 1, cells := 0, slots := 0, locals := 21 }) {Q : State → Prop} (x1 : Int32) (x2 : Int32) (rec : Int32 → Int32 → Int32 → jM → Option (Int32 × jM)) (ih : ∀ (x3 : Int32) (x4 : Int32) (x5 : Int32) (M : jM) (e5 : Int32) (Me : jM), rec x3 x4 x5 M = some (e5, Me) → jJ Γ GX RX 104 [(0, .ref (jad Γ 18)), (1, .int x1), (2, .int x2), (3, .int x3), (4, .int x4), (5, .int e5)] [] Me Q → jJ Γ GX RX 61 [(0, .ref (jad Γ 18)), (1, .int x1), (2, .int x2), (3, .int x3), (4, .int x4), (5, .int x5)] [] M Q) (x3 : Int32) (x4 : Int32) (x5 : Int32) (M : jM) (e5 : Int32) (Me : jM) (h : f_X2_addDeedd_L61_b rec x3 x4 x5 M = some (e5, Me)) (hK : jJ Γ GX RX 104 [(0, .ref (jad Γ 18)), (1, .int x1), (2, .int x2), (3, .int x3), (4, .int x4), (5, .int e5)] [] Me Q) : jJ Γ GX RX 61 [(0, .ref (jad Γ 18)), (1, .int x1), (2, .int x2), (3, .int x3), (4, .int x4), (5, .int x5)] [] M Q := by
  unfold f_X2_addDeedd_L61_b at h
  refine j_iload 5 (pc' := 63) hC dX2_addDeed_61 rfl rfl ?_
  refine j_iload 4 (pc' := 65) hC dX2_addDeed_63 rfl rfl ?_
  refine j_icmp_ge (tgt := 104) (pc' := 68) hC dX2_addDeed_65 (by decide) rfl (fun c1 => ?_) (fun c1 => ?_)
  · have h := jit_t c1 h
    obtain ⟨q0, q1⟩ := jinj2 h
    subst q0
    subst q1
    refine j_sub [0, 1, 2, 3, 4, 5] rfl ?_
    exact hK
  · have h := jit_f c1 h
    refine j_aload_n 0 (pc' := 69) hC dX2_addDeed_68 rfl rfl ?_
    refine j_getr' (o2 := 22) (pc' := 72) hC dX2_addDeed_69 rfl fi_X2_28 gx18 rfl ?_
    refine j_iload 4 (pc' := 74) hC dX2_addDeed_72 rfl rfl ?_
    refine j_dup2 (pc' := 75) hC dX2_addDeed_74 rfl rfl rfl ?_
    obtain ⟨g2, h⟩ := jg_s h
    refine j_iald (pc' := 76) hC dX2_addDeed_75 rfl gx22 g2 ?_
    refine j_iload_n 3 (pc' := 77) hC dX2_addDeed_76 rfl rfl ?_
    refine j_iload 5 (pc' := 79) hC dX2_addDeed_77 rfl rfl ?_
    obtain ⟨r3, hc4, h⟩ := jb1_s h
    refine j_callNi [.int x3, .int x5] (pc' := 82) hC dX2_addDeed_79 rfl (t_X5_isIn _ _ hc4) cn_X2_65 ⟨⟨Nat.le_of_ble_eq_true rfl, Nat.le_of_ble_eq_true rfl⟩, rfl, Nat.le_of_ble_eq_true rfl⟩ rfl rfl ?_
    obtain ⟨v7, hm9, h⟩ := jb1_s h
    have K8 : jJ Γ GX RX 96 [(0, .ref (jad Γ 18)), (1, .int x1), (2, .int x2), (3, .int x3), (4, .int x4), (5, .int x5)] [.int v7, .int (gi M 22 x4.toNatClampNeg), .int x4, .ref (jad Γ 22)] M Q := by
      refine j_ior (pc' := 97) hC dX2_addDeed_96 rfl ?_
      obtain ⟨g12, h⟩ := jg_s h
      obtain ⟨M13, eM13, h⟩ := jlet_s h
      refine j_iast' (pc' := 98) hC dX2_addDeed_97 rfl gx22 g12 eM13 ?_
      obtain ⟨v14, ev14, h⟩ := jlet_s h
      refine j_iinc' 5 (c := 1) (pc' := 101) hC dX2_addDeed_98 rfl rfl rfl ev14 (by decide) rfl ?_
      refine j_goto (tgt := 61) (pc' := 0) hC dX2_addDeed_101 (by decide) ?_
      refine j_sub [1, 2, 3, 4, 5, 0] rfl ?_
      exact ih _ _ _ _ _ _ h hK
    refine j_if_eq (tgt := 95) (pc' := 85) hC dX2_addDeed_82 (by decide) rfl (fun c10 => ?_) (fun c10 => ?_)
    · have hm9 := jit_t c10 hm9
      refine j_iconst (v := 0) (pc' := 96) hC dX2_addDeed_95 rfl rfl ?_
      have q8 := jinj1 hm9
      subst q8
      exact j_sub [0, 1, 2, 3, 4, 5] rfl K8
    · have hm9 := jit_f c10 hm9
      refine j_aload_n 0 (pc' := 86) hC dX2_addDeed_85 rfl rfl ?_
      refine j_getr' (o2 := 22) (pc' := 89) hC dX2_addDeed_86 rfl fi_X2_28 gx18 rfl ?_
      refine j_iload 5 (pc' := 91) hC dX2_addDeed_89 rfl rfl ?_
      obtain ⟨g11, hm9⟩ := jg_s hm9
      refine j_iald (pc' := 92) hC dX2_addDeed_91 rfl gx22 g11 ?_
      refine j_goto (tgt := 96) (pc' := 0) hC dX2_addDeed_92 (by decide) ?_
      have q8 := jinj1 hm9
      subst q8
      exact j_sub [0, 1, 2, 3, 4, 5] rfl K8
theorem lp_X2_addDeedd_L61 {Γ : jG} (hC : jOK Γ cX2_addDeed 6 RX2 (none) { frames := 1, cells := 0, slots := 0, locals := 21 }) {Q : State → Prop} (x1 : Int32) (x2 : Int32) : ∀ (n : Nat) (x3 : Int32) (x4 : Int32) (x5 : Int32) (M : jM) (e5 : Int32) (Me : jM), f_X2_addDeedd_L61 n x3 x4 x5 M = some (e5, Me) → jJ Γ GX RX 104 [(0, .ref (jad Γ 18)), (1, .int x1), (2, .int x2), (3, .int x3), (4, .int x4), (5, .int e5)] [] Me Q → jJ Γ GX RX 61 [(0, .ref (jad Γ 18)), (1, .int x1), (2, .int x2), (3, .int x3), (4, .int x4), (5, .int x5)] [] M Q := by
  intro n
  induction n with
  | zero =>
    intro x3 x4 x5 M e5 Me h hK
    exact jno h
  | succ n ih =>
    intro x3 x4 x5 M e5 Me h hK
    exact lp_X2_addDeedd_L61_b hC x1 x2 (f_X2_addDeedd_L61 n) ih x3 x4 x5 M e5 Me h hK
theorem t_X2_addDeedd (l : Launch) (E : jE) {a1 : Int32} {a2 : Int32} {a3 : Int32} {M : jM} {M' : jM} (h : f_X2_addDeedd a1 a2 a3 M = some M') : jCv l yX2_addDeed cX2_addDeed 6 (none) 1 21 E RX GX (fun a _ => [.ref (a 18), .int a1, .int a2, .int a3]) M M' := by
  refine jCv_of (own := RX2) (by decide) rfl (fun _ _ => Nat.le_of_ble_eq_true rfl) ?_
  intro Γ hC
  show jJ Γ GX RX 0 [(0, .ref (jad Γ 18)), (1, .int a1), (2, .int a2), (3, .int a3)] [] M (jQv Γ RX GX M')
  unfold f_X2_addDeedd at h
  refine j_aload_n 0 (pc' := 1) hC dX2_addDeed_0 rfl rfl ?_
  refine j_geti' (pc' := 4) hC dX2_addDeed_1 rfl fi_X2_9 gx18 ?_
  refine j_bipush (v := 6) (pc' := 6) hC dX2_addDeed_4 rfl rfl ?_
  refine j_icmp_lt (tgt := 10) (pc' := 9) hC dX2_addDeed_6 (by decide) rfl (fun c1 => ?_) (fun c1 => ?_)
  · have h := jit_t c1 h
    refine j_aload_n 0 (pc' := 11) hC dX2_addDeed_10 rfl rfl ?_
    refine j_geti' (pc' := 14) hC dX2_addDeed_11 rfl fi_X2_9 gx18 ?_
    obtain ⟨v2, ev2, h⟩ := jlet_s h
    refine j_istore (pc' := 16) hC dX2_addDeed_14 rfl ev2 (by decide) rfl ?_
    refine j_aload_n 1 (pc' := 17) hC dX2_addDeed_16 rfl rfl ?_
    refine j_dup (pc' := 18) hC dX2_addDeed_17 rfl rfl ?_
    refine j_geti' (pc' := 21) hC dX2_addDeed_18 rfl fi_X2_9 gx18 ?_
    refine j_iconst (v := 1) (pc' := 22) hC dX2_addDeed_21 rfl rfl ?_
    refine j_iadd (pc' := 23) hC dX2_addDeed_22 rfl ?_
    obtain ⟨M3, eM3, h⟩ := jlet_s h
    refine j_puti' (pc' := 26) hC dX2_addDeed_23 rfl fp_X2_9 gx18 eM3 ?_
    refine j_aload_n 1 (pc' := 27) hC dX2_addDeed_26 rfl rfl ?_
    refine j_getr' (o2 := 19) (pc' := 30) hC dX2_addDeed_27 rfl fi_X2_18 gx18 rfl ?_
    refine j_iload 0 (pc' := 32) hC dX2_addDeed_30 rfl rfl ?_
    refine j_iload_n 2 (pc' := 33) hC dX2_addDeed_32 rfl rfl ?_
    obtain ⟨g4, h⟩ := jg_s h
    obtain ⟨M5, eM5, h⟩ := jlet_s h
    refine j_iast' (pc' := 34) hC dX2_addDeed_33 rfl gx19 g4 eM5 ?_
    refine j_aload_n 1 (pc' := 35) hC dX2_addDeed_34 rfl rfl ?_
    refine j_getr' (o2 := 20) (pc' := 38) hC dX2_addDeed_35 rfl fi_X2_22 gx18 rfl ?_
    refine j_iload 0 (pc' := 40) hC dX2_addDeed_38 rfl rfl ?_
    refine j_iload_n 3 (pc' := 41) hC dX2_addDeed_40 rfl rfl ?_
    obtain ⟨g6, h⟩ := jg_s h
    obtain ⟨M7, eM7, h⟩ := jlet_s h
    refine j_iast' (pc' := 42) hC dX2_addDeed_41 rfl gx20 g6 eM7 ?_
    refine j_aload_n 1 (pc' := 43) hC dX2_addDeed_42 rfl rfl ?_
    refine j_getr' (o2 := 21) (pc' := 46) hC dX2_addDeed_43 rfl fi_X2_25 gx18 rfl ?_
    refine j_iload 0 (pc' := 48) hC dX2_addDeed_46 rfl rfl ?_
    refine j_iload_n 4 (pc' := 49) hC dX2_addDeed_48 rfl rfl ?_
    obtain ⟨g8, h⟩ := jg_s h
    obtain ⟨M9, eM9, h⟩ := jlet_s h
    refine j_iast' (pc' := 50) hC dX2_addDeed_49 rfl gx21 g8 eM9 ?_
    refine j_aload_n 1 (pc' := 51) hC dX2_addDeed_50 rfl rfl ?_
    refine j_getr' (o2 := 22) (pc' := 54) hC dX2_addDeed_51 rfl fi_X2_28 gx18 rfl ?_
    refine j_iload 0 (pc' := 56) hC dX2_addDeed_54 rfl rfl ?_
    refine j_iload_n 4 (pc' := 57) hC dX2_addDeed_56 rfl rfl ?_
    obtain ⟨g10, h⟩ := jg_s h
    obtain ⟨M11, eM11, h⟩ := jlet_s h
    refine j_iast' (pc' := 58) hC dX2_addDeed_57 rfl gx22 g10 eM11 ?_
    refine j_iconst (v := 0) (pc' := 59) hC dX2_addDeed_58 rfl rfl ?_
    refine j_istore (pc' := 61) hC dX2_addDeed_59 rfl rfl (by decide) rfl ?_
    refine j_sub [2, 3, 4, 5, 1, 0] rfl ?_
    obtain ⟨v12, M13, hm14, h⟩ := jb2_s h
    refine lp_X2_addDeedd_L61 hC a1 a2 jfu a3 v2 (0 : Int32) M11 v12 M13 hm14 ?_
    have q8 := jinj1 h
    subst q8
    exact j_vret hC dX2_addDeed_104
  · have h := jit_f c1 h
    have q8 := jinj1 h
    subst q8
    exact j_vret hC dX2_addDeed_9
theorem lp_X3_readDeed_L67_b {Γ : jG} (hC : jOK Γ cX3_readDeed 7 RX3 (some .boolean) { frames := 2, cells := 0, slots := 0, locals := 46 }) {Q : State → Prop} (x1 : Int32) (x2 : Int32) (rec : Int32 → Int32 → Int32 → jM → Option ((Int32 × jM) ⊕ (Int32 × Int32 × jM))) (ih : ∀ (x3 : Int32) (x4 : Int32) (x5 : Int32) (M : jM) (res : (Int32 × jM) ⊕ (Int32 × Int32 × jM)), rec x3 x4 x5 M = some res → (∀ (r : Int32) (M' : jM), res = .inl (r, M') → Q = jQi Γ RX GX r M') → (∀ (e4 : Int32) (e5 : Int32) (Me : jM), res = .inr (e4, e5, Me) → jJ Γ GX RX 126 [(0, .ref (jad Γ 17)), (1, .int x1), (2, .int x2), (3, .int x3), (4, .int e4), (5, .int e5)] [] Me Q) → jJ Γ GX RX 67 [(0, .ref (jad Γ 17)), (1, .int x1), (2, .int x2), (3, .int x3), (4, .int x4), (5, .int x5)] [] M Q) (x3 : Int32) (x4 : Int32) (x5 : Int32) (M : jM) (res : (Int32 × jM) ⊕ (Int32 × Int32 × jM)) (h : f_X3_readDeed_L67_b rec x3 x4 x5 M = some res) (hQ : ∀ (r : Int32) (M' : jM), res = .inl (r, M') → Q = jQi Γ RX GX r M') (hK : ∀ (e4 : Int32) (e5 : Int32) (Me : jM), res = .inr (e4, e5, Me) → jJ Γ GX RX 126 [(0, .ref (jad Γ 17)), (1, .int x1), (2, .int x2), (3, .int x3), (4, .int e4), (5, .int e5)] [] Me Q) : jJ Γ GX RX 67 [(0, .ref (jad Γ 17)), (1, .int x1), (2, .int x2), (3, .int x3), (4, .int x4), (5, .int x5)] [] M Q := by
  unfold f_X3_readDeed_L67_b at h
  refine j_iload 5 (pc' := 69) hC dX3_readDeed_67 rfl rfl ?_
  refine j_iload_n 3 (pc' := 70) hC dX3_readDeed_69 rfl rfl ?_
  refine j_icmp_ge (tgt := 126) (pc' := 73) hC dX3_readDeed_70 (by decide) rfl (fun c1 => ?_) (fun c1 => ?_)
  · have h := jit_t c1 h
    have q8 := jinj1 h
    subst q8
    refine j_sub [0, 1, 2, 3, 4, 5] rfl ?_
    exact hK _ _ _ rfl
  · have h := jit_f c1 h
    refine j_aload_n 0 (pc' := 74) hC dX3_readDeed_73 rfl rfl ?_
    refine j_bipush (v := 48) (pc' := 76) hC dX3_readDeed_74 rfl rfl ?_
    refine j_bipush (v := 57) (pc' := 78) hC dX3_readDeed_76 rfl rfl ?_
    obtain ⟨r2, hc3, h⟩ := jb1_s h
    refine j_callVi [.int (48 : Int32), .int (57 : Int32)] (pc' := 81) hC dX3_readDeed_78 rfl (t_X3_nextBetween _ _ hc3) gx17 vcl3 cv_X3_48 ⟨⟨Nat.le_of_ble_eq_true rfl, Nat.le_of_ble_eq_true rfl⟩, rfl, Nat.le_of_ble_eq_true rfl⟩ rfl rfl ?_
    refine j_istore (pc' := 83) hC dX3_readDeed_81 rfl rfl (by decide) rfl ?_
    refine j_aload_n 1 (pc' := 84) hC dX3_readDeed_83 rfl rfl ?_
    refine j_getr' (o2 := 18) (pc' := 87) hC dX3_readDeed_84 rfl fi_X3_12 gx17 rfl ?_
    refine j_iload 0 (pc' := 89) hC dX3_readDeed_87 rfl rfl ?_
    obtain ⟨r4, hc5, h⟩ := jb1_s h
    refine j_callVi [.int r2] (pc' := 92) hC dX3_readDeed_89 rfl (t_X2_hasDeedd _ _ hc5) gx18 vcl2 cv_X3_74 ⟨⟨Nat.le_of_ble_eq_true rfl, Nat.le_of_ble_eq_true rfl⟩, rfl, Nat.le_of_ble_eq_true rfl⟩ rfl rfl ?_
    refine j_if_eq (tgt := 105) (pc' := 95) hC dX3_readDeed_92 (by decide) rfl (fun c6 => ?_) (fun c6 => ?_)
    · have h := jit_t c6 h
      refine j_iconst (v := 0) (pc' := 106) hC dX3_readDeed_105 rfl rfl ?_
      have q8 := jinj1 h
      subst q8
      rw [hQ _ _ rfl]
      exact j_zret hC dX3_readDeed_106 (by decide)
    · have h := jit_f c6 h
      refine j_iload 5 (pc' := 97) hC dX3_readDeed_95 rfl rfl ?_
      refine j_iload 0 (pc' := 99) hC dX3_readDeed_97 rfl rfl ?_
      obtain ⟨r7, hc8, h⟩ := jb1_s h
      refine j_callNi [.int x4, .int r2] (pc' := 102) hC dX3_readDeed_99 rfl (t_X5_isIn _ _ hc8) cn_X3_78 ⟨⟨Nat.le_of_ble_eq_true rfl, Nat.le_of_ble_eq_true rfl⟩, rfl, Nat.le_of_ble_eq_true rfl⟩ rfl rfl ?_
      refine j_if_eq (tgt := 107) (pc' := 105) hC dX3_readDeed_102 (by decide) rfl (fun c9 => ?_) (fun c9 => ?_)
      · have h := jit_t c9 h
        refine j_iload 5 (pc' := 109) hC dX3_readDeed_107 rfl rfl ?_
        refine j_iconst (v := 1) (pc' := 110) hC dX3_readDeed_109 rfl rfl ?_
        refine j_aload_n 1 (pc' := 111) hC dX3_readDeed_110 rfl rfl ?_
        refine j_iload 0 (pc' := 113) hC dX3_readDeed_111 rfl rfl ?_
        obtain ⟨r10, M11, hc12, h⟩ := jb2_s h
        refine j_callVi [.int r2] (pc' := 116) hC dX3_readDeed_113 rfl (t_X3_take _ _ hc12) gx17 vcl3 cv_X3_67 ⟨⟨Nat.le_of_ble_eq_true rfl, Nat.le_of_ble_eq_true rfl⟩, rfl, Nat.le_of_ble_eq_true rfl⟩ rfl rfl ?_
        refine j_ishl (pc' := 117) hC dX3_readDeed_116 rfl ?_
        refine j_ior (pc' := 118) hC dX3_readDeed_117 rfl ?_
        obtain ⟨v13, ev13, h⟩ := jlet_s h
        refine j_istore (pc' := 120) hC dX3_readDeed_118 rfl ev13 (by decide) rfl ?_
        obtain ⟨v14, ev14, h⟩ := jlet_s h
        refine j_iinc' 6 (c := 1) (pc' := 123) hC dX3_readDeed_120 rfl rfl rfl ev14 (by decide) rfl ?_
        refine j_goto (tgt := 67) (pc' := 0) hC dX3_readDeed_123 (by decide) ?_
        refine j_sub [3, 4, 5, 6, 1, 0] rfl ?_
        exact ih _ _ _ _ res h hQ hK
      · have h := jit_f c9 h
        refine j_iconst (v := 0) (pc' := 106) hC dX3_readDeed_105 rfl rfl ?_
        have q8 := jinj1 h
        subst q8
        rw [hQ _ _ rfl]
        exact j_zret hC dX3_readDeed_106 (by decide)
theorem lp_X3_readDeed_L67 {Γ : jG} (hC : jOK Γ cX3_readDeed 7 RX3 (some .boolean) { frames := 2, cells := 0, slots := 0, locals := 46 }) {Q : State → Prop} (x1 : Int32) (x2 : Int32) : ∀ (n : Nat) (x3 : Int32) (x4 : Int32) (x5 : Int32) (M : jM) (res : (Int32 × jM) ⊕ (Int32 × Int32 × jM)), f_X3_readDeed_L67 n x3 x4 x5 M = some res → (∀ (r : Int32) (M' : jM), res = .inl (r, M') → Q = jQi Γ RX GX r M') → (∀ (e4 : Int32) (e5 : Int32) (Me : jM), res = .inr (e4, e5, Me) → jJ Γ GX RX 126 [(0, .ref (jad Γ 17)), (1, .int x1), (2, .int x2), (3, .int x3), (4, .int e4), (5, .int e5)] [] Me Q) → jJ Γ GX RX 67 [(0, .ref (jad Γ 17)), (1, .int x1), (2, .int x2), (3, .int x3), (4, .int x4), (5, .int x5)] [] M Q := by
  intro n
  induction n with
  | zero =>
    intro x3 x4 x5 M res h hQ hK
    exact jno h
  | succ n ih =>
    intro x3 x4 x5 M res h hQ hK
    exact lp_X3_readDeed_L67_b hC x1 x2 (f_X3_readDeed_L67 n) ih x3 x4 x5 M res h hQ hK
theorem t_X3_readDeed (l : Launch) (E : jE) {M : jM} {r : Int32} {M' : jM} (h : f_X3_readDeed M = some (r, M')) : jCi l yX3_readDeed cX3_readDeed 7 (some .boolean) 2 46 E RX GX (fun a _ => [.ref (a 17)]) M r M' := by
  refine jCi_of (own := RX3) (by decide) rfl (fun _ _ => Nat.le_of_ble_eq_true rfl) ?_
  intro Γ hC
  show jJ Γ GX RX 0 [(0, .ref (jad Γ 17))] [] M (jQi Γ RX GX r M')
  unfold f_X3_readDeed at h
  refine j_aload_n 0 (pc' := 1) hC dX3_readDeed_0 rfl rfl ?_
  refine j_aload_n 0 (pc' := 2) hC dX3_readDeed_1 rfl rfl ?_
  refine j_gets 1 (pc' := 5) hC dX3_readDeed_2 rfl (by decide) (by decide +kernel) ?_
  obtain ⟨r1, hc2, h⟩ := jb1_s h
  refine j_callVi [.ref (jst Γ 1)] (pc' := 8) hC dX3_readDeed_5 rfl (t_X3_nextAmongs1 _ _ hc2) gx17 vcl3 cv_X3_63 ⟨⟨Nat.le_of_ble_eq_true rfl, Nat.le_of_ble_eq_true rfl⟩, rfl, Nat.le_of_ble_eq_true rfl⟩ rfl rfl ?_
  obtain ⟨r3, M4, hc5, h⟩ := jb2_s h
  refine j_callVi [.int r1] (pc' := 11) hC dX3_readDeed_8 rfl (t_X3_take _ _ hc5) gx17 vcl3 cv_X3_67 ⟨⟨Nat.le_of_ble_eq_true rfl, Nat.le_of_ble_eq_true rfl⟩, rfl, Nat.le_of_ble_eq_true rfl⟩ rfl rfl ?_
  refine j_istore_n (pc' := 12) hC dX3_readDeed_11 rfl rfl (by decide) rfl ?_
  refine j_iload_n 0 (pc' := 13) hC dX3_readDeed_12 rfl rfl ?_
  obtain ⟨v12, M13, hm15, h⟩ := jb2_s h
  have K14 : jJ Γ GX RX 32 [(0, .ref (jad Γ 17)), (1, .int r3)] [.int v12] M13 (jQi Γ RX GX r M') := by
    refine j_istore_n (pc' := 33) hC dX3_readDeed_32 rfl rfl (by decide) rfl ?_
    refine j_iload_n 0 (pc' := 34) hC dX3_readDeed_33 rfl rfl ?_
    obtain ⟨v28, M29, hm31, h⟩ := jb2_s h
    have K30 : jJ Γ GX RX 54 [(0, .ref (jad Γ 17)), (1, .int r3), (2, .int v12)] [.int v28] M29 (jQi Γ RX GX r M') := by
      refine j_istore_n (pc' := 55) hC dX3_readDeed_54 rfl rfl (by decide) rfl ?_
      refine j_iload_n 0 (pc' := 56) hC dX3_readDeed_55 rfl rfl ?_
      refine j_if_ge (tgt := 61) (pc' := 59) hC dX3_readDeed_56 (by decide) rfl (fun c38 => ?_) (fun c38 => ?_)
      · have h := jit_t c38 h
        refine j_iconst (v := 0) (pc' := 62) hC dX3_readDeed_61 rfl rfl ?_
        refine j_istore (pc' := 64) hC dX3_readDeed_62 rfl rfl (by decide) rfl ?_
        refine j_iconst (v := 0) (pc' := 65) hC dX3_readDeed_64 rfl rfl ?_
        refine j_istore (pc' := 67) hC dX3_readDeed_65 rfl rfl (by decide) rfl ?_
        refine j_sub [3, 4, 5, 2, 1, 0] rfl ?_
        rcases jr3_s h with hm42 | ⟨v39, v40, M41, hm42, h⟩
        · exact lp_X3_readDeed_L67 hC r3 v12 jfu v28 (0 : Int32) (0 : Int32) M29 _ hm42 (fun _ _ e => by cases e; rfl) (fun _ _ _ e => by cases e)
        · refine lp_X3_readDeed_L67 hC r3 v12 jfu v28 (0 : Int32) (0 : Int32) M29 _ hm42 (fun _ _ e => by cases e) (fun _ _ _ e => ?_)
          cases e
          refine j_aload_n 0 (pc' := 127) hC dX3_readDeed_126 rfl rfl ?_
          refine j_getr' (o2 := 18) (pc' := 130) hC dX3_readDeed_127 rfl fi_X3_12 gx17 rfl ?_
          refine j_iload_n 1 (pc' := 131) hC dX3_readDeed_130 rfl rfl ?_
          refine j_iload_n 2 (pc' := 132) hC dX3_readDeed_131 rfl rfl ?_
          refine j_iload 4 (pc' := 134) hC dX3_readDeed_132 rfl rfl ?_
          obtain ⟨M43, hc44, h⟩ := jb1_s h
          refine j_callVv [.int r3, .int v12, .int v39] (pc' := 137) hC dX3_readDeed_134 rfl (t_X2_addDeedd _ _ hc44) gx18 vcl2 cv_X3_82 ⟨⟨Nat.le_of_ble_eq_true rfl, Nat.le_of_ble_eq_true rfl⟩, rfl, Nat.le_of_ble_eq_true rfl⟩ rfl rfl ?_
          refine j_iconst (v := 1) (pc' := 138) hC dX3_readDeed_137 rfl rfl ?_
          obtain ⟨q0, q1⟩ := jinj2 h
          subst q0
          subst q1
          exact j_zret hC dX3_readDeed_138 (by decide)
      · have h := jit_f c38 h
        refine j_iconst (v := 0) (pc' := 60) hC dX3_readDeed_59 rfl rfl ?_
        obtain ⟨q0, q1⟩ := jinj2 h
        subst q0
        subst q1
        exact j_zret hC dX3_readDeed_60 (by decide)
    refine j_if_ge (tgt := 42) (pc' := 37) hC dX3_readDeed_34 (by decide) rfl (fun c32 => ?_) (fun c32 => ?_)
    · have hm31 := jit_t c32 hm31
      refine j_aload_n 1 (pc' := 43) hC dX3_readDeed_42 rfl rfl ?_
      refine j_aload_n 1 (pc' := 44) hC dX3_readDeed_43 rfl rfl ?_
      refine j_bipush (v := 48) (pc' := 46) hC dX3_readDeed_44 rfl rfl ?_
      refine j_bipush (v := 51) (pc' := 48) hC dX3_readDeed_46 rfl rfl ?_
      obtain ⟨r33, hc34, hm31⟩ := jb1_s hm31
      refine j_callVi [.int (48 : Int32), .int (51 : Int32)] (pc' := 51) hC dX3_readDeed_48 rfl (t_X3_nextBetween _ _ hc34) gx17 vcl3 cv_X3_48 ⟨⟨Nat.le_of_ble_eq_true rfl, Nat.le_of_ble_eq_true rfl⟩, rfl, Nat.le_of_ble_eq_true rfl⟩ rfl rfl ?_
      obtain ⟨r35, M36, hc37, hm31⟩ := jb2_s hm31
      refine j_callVi [.int r33] (pc' := 54) hC dX3_readDeed_51 rfl (t_X3_take _ _ hc37) gx17 vcl3 cv_X3_67 ⟨⟨Nat.le_of_ble_eq_true rfl, Nat.le_of_ble_eq_true rfl⟩, rfl, Nat.le_of_ble_eq_true rfl⟩ rfl rfl ?_
      obtain ⟨q0, q1⟩ := jinj2 hm31
      subst q0
      subst q1
      exact j_sub [1, 2, 0] rfl K30
    · have hm31 := jit_f c32 hm31
      refine j_bipush (v := -9) (pc' := 39) hC dX3_readDeed_37 rfl rfl ?_
      refine j_goto (tgt := 54) (pc' := 0) hC dX3_readDeed_39 (by decide) ?_
      obtain ⟨q0, q1⟩ := jinj2 hm31
      subst q0
      subst q1
      exact j_sub [1, 2, 0] rfl K30
  refine j_if_ge (tgt := 21) (pc' := 16) hC dX3_readDeed_13 (by decide) rfl (fun c16 => ?_) (fun c16 => ?_)
  · have hm15 := jit_t c16 hm15
    refine j_aload_n 1 (pc' := 22) hC dX3_readDeed_21 rfl rfl ?_
    refine j_aload_n 1 (pc' := 23) hC dX3_readDeed_22 rfl rfl ?_
    refine j_gets 2 (pc' := 26) hC dX3_readDeed_23 rfl (by decide) (by decide +kernel) ?_
    obtain ⟨r17, hc18, hm15⟩ := jb1_s hm15
    refine j_callVi [.ref (jst Γ 2)] (pc' := 29) hC dX3_readDeed_26 rfl (t_X3_nextAmongs2 _ _ hc18) gx17 vcl3 cv_X3_63 ⟨⟨Nat.le_of_ble_eq_true rfl, Nat.le_of_ble_eq_true rfl⟩, rfl, Nat.le_of_ble_eq_true rfl⟩ rfl rfl ?_
    obtain ⟨r19, M20, hc21, hm15⟩ := jb2_s hm15
    refine j_callVi [.int r17] (pc' := 32) hC dX3_readDeed_29 rfl (t_X3_take _ _ hc21) gx17 vcl3 cv_X3_67 ⟨⟨Nat.le_of_ble_eq_true rfl, Nat.le_of_ble_eq_true rfl⟩, rfl, Nat.le_of_ble_eq_true rfl⟩ rfl rfl ?_
    obtain ⟨q0, q1⟩ := jinj2 hm15
    subst q0
    subst q1
    exact j_sub [1, 0] rfl K14
  · have hm15 := jit_f c16 hm15
    refine j_bipush (v := -9) (pc' := 18) hC dX3_readDeed_16 rfl rfl ?_
    refine j_goto (tgt := 32) (pc' := 0) hC dX3_readDeed_18 (by decide) ?_
    obtain ⟨q0, q1⟩ := jinj2 hm15
    subst q0
    subst q1
    exact j_sub [1, 0] rfl K14
