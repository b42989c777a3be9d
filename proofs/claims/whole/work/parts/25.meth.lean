theorem lp_J7_fill_d0a16_L6_b {Γ : jG} {G : List (Nat × Nat)} {Rf : Nat → Nat → Option Nat} (hC : jOK Γ cJ7_fill_d0a16 5 RJ7 (none) { frames := 0, cells := 0, slots := 0, locals := 0 }) {Q : State → Prop} (o0 : Nat) (n0 : Nat) (ho0 : G[o0]? = some (1, n0)) (rec : Int64 → Int32 → Int32 → jM → Option (Int32 × jM)) (ih : ∀ (x1 : Int64) (x3 : Int32) (x4 : Int32) (M : jM) (e3 : Int32) (Me : jM), rec x1 x3 x4 M = some (e3, Me) → jJ Γ G Rf 22 [(0, .ref (jad Γ o0)), (1, .long x1), (3, .int e3), (4, .int x4)] [] Me Q → jJ Γ G Rf 6 [(0, .ref (jad Γ o0)), (1, .long x1), (3, .int x3), (4, .int x4)] [] M Q) (x1 : Int64) (x3 : Int32) (x4 : Int32) (M : jM) (e3 : Int32) (Me : jM) (h : f_J7_fill_d0a16_L6_b o0 n0 rec x1 x3 x4 M = some (e3, Me)) (hK : jJ Γ G Rf 22 [(0, .ref (jad Γ o0)), (1, .long x1), (3, .int e3), (4, .int x4)] [] Me Q) : jJ Γ G Rf 6 [(0, .ref (jad Γ o0)), (1, .long x1), (3, .int x3), (4, .int x4)] [] M Q := by
  unfold f_J7_fill_d0a16_L6_b at h
  refine j_iload_n 2 (pc' := 7) hC dJ7_fill_d0a16_6 rfl rfl ?_
  refine j_iload 3 (pc' := 9) hC dJ7_fill_d0a16_7 rfl rfl ?_
  refine j_icmp_ge (tgt := 22) (pc' := 12) hC dJ7_fill_d0a16_9 (by decide) rfl (fun c1 => ?_) (fun c1 => ?_)
  · have h := jit_t c1 h
    obtain ⟨q0, q1⟩ := jinj2 h
    subst q0
    subst q1
    refine j_sub [0, 1, 2, 3] rfl ?_
    exact hK
  · have h := jit_f c1 h
    refine j_aload_n 0 (pc' := 13) hC dJ7_fill_d0a16_12 rfl rfl ?_
    refine j_iload_n 2 (pc' := 14) hC dJ7_fill_d0a16_13 rfl rfl ?_
    refine j_lload_n 1 (pc' := 15) hC dJ7_fill_d0a16_14 rfl rfl ?_
    obtain ⟨g2, h⟩ := jg_s h
    obtain ⟨M3, eM3, h⟩ := jlet_s h
    refine j_last' (pc' := 16) hC dJ7_fill_d0a16_15 rfl ho0 g2 eM3 ?_
    obtain ⟨v4, ev4, h⟩ := jlet_s h
    refine j_iinc' 2 (c := 1) (pc' := 19) hC dJ7_fill_d0a16_16 rfl rfl rfl ev4 (by decide) rfl ?_
    refine j_goto (tgt := 6) (pc' := 0) hC dJ7_fill_d0a16_19 (by decide) ?_
    refine j_sub [1, 2, 0, 3] rfl ?_
    exact ih _ _ _ _ _ _ h hK
theorem lp_J7_fill_d0a16_L6 {Γ : jG} {G : List (Nat × Nat)} {Rf : Nat → Nat → Option Nat} (hC : jOK Γ cJ7_fill_d0a16 5 RJ7 (none) { frames := 0, cells := 0, slots := 0, locals := 0 }) {Q : State → Prop} (o0 : Nat) (n0 : Nat) (ho0 : G[o0]? = some (1, n0)) : ∀ (n : Nat) (x1 : Int64) (x3 : Int32) (x4 : Int32) (M : jM) (e3 : Int32) (Me : jM), f_J7_fill_d0a16_L6 o0 n0 n x1 x3 x4 M = some (e3, Me) → jJ Γ G Rf 22 [(0, .ref (jad Γ o0)), (1, .long x1), (3, .int e3), (4, .int x4)] [] Me Q → jJ Γ G Rf 6 [(0, .ref (jad Γ o0)), (1, .long x1), (3, .int x3), (4, .int x4)] [] M Q := by
  intro n
  induction n with
  | zero =>
    intro x1 x3 x4 M e3 Me h hK
    exact jno h
  | succ n ih =>
    intro x1 x3 x4 M e3 Me h hK
    exact lp_J7_fill_d0a16_L6_b hC o0 n0 ho0 (f_J7_fill_d0a16_L6 o0 n0 n) ih x1 x3 x4 M e3 Me h hK
theorem t_J7_fill_d0a16 (l : Launch) (E : jE) {G : List (Nat × Nat)} {Rf : Nat → Nat → Option Nat} {o1 : Nat} {n1 : Nat} {a2 : Int64} (ho1 : G[o1]? = some (1, n1)) {M : jM} {M' : jM} (h : f_J7_fill_d0a16 o1 n1 a2 M = some M') : jCv l yJ7_fill_d0a16 cJ7_fill_d0a16 5 (none) 0 0 E Rf G (fun a _ => [.ref (a o1), .long a2]) M M' := by
  refine jCv_of (own := RJ7) (by decide) rfl (fun _ _ => Nat.le_of_ble_eq_true rfl) ?_
  intro Γ hC
  show jJ Γ G Rf 0 [(0, .ref (jad Γ o1)), (1, .long a2)] [] M (jQv Γ Rf G M')
  unfold f_J7_fill_d0a16 at h
  refine j_iconst (v := 0) (pc' := 1) hC dJ7_fill_d0a16_0 rfl rfl ?_
  refine j_istore_n (pc' := 2) hC dJ7_fill_d0a16_1 rfl rfl (by decide) rfl ?_
  refine j_aload_n 1 (pc' := 3) hC dJ7_fill_d0a16_2 rfl rfl ?_
  refine j_alen1 (v := (Int32.ofNat n1)) (pc' := 4) hC dJ7_fill_d0a16_3 rfl ho1 rfl ?_
  obtain ⟨v1, ev1, h⟩ := jlet_s h
  refine j_istore (pc' := 6) hC dJ7_fill_d0a16_4 rfl ev1 (by decide) rfl ?_
  refine j_sub [2, 3, 1, 0] rfl ?_
  obtain ⟨v2, M3, hm4, h⟩ := jb2_s h
  refine lp_J7_fill_d0a16_L6 hC o1 n1 ho1 jfu a2 (0 : Int32) v1 M v2 M3 hm4 ?_
  have q8 := jinj1 h
  subst q8
  exact j_vret hC dJ7_fill_d0a16_22
theorem lp_X1_pass_L11_b {Γ : jG} (hC : jOK Γ cX1_pass 9 RX1 (none) { frames := 0, cells := 0, slots := 0, locals := 0 }) {Q : State → Prop} (x5 : Int32) (rec : Int64 → Int32 → Int32 → Int32 → Int32 → jM → Option (Int32 × Int32 × jM)) (ih : ∀ (x1 : Int64) (x3 : Int32) (x4 : Int32) (x6 : Int32) (x7 : Int32) (M : jM) (e6 : Int32) (e7 : Int32) (Me : jM), rec x1 x3 x4 x6 x7 M = some (e6, e7, Me) → jJ Γ GX RX 62 [(0, .ref (jad Γ 65)), (1, .long x1), (3, .int x3), (4, .int x4), (5, .int x5), (6, .int e6), (7, .int e7)] [] Me Q → jJ Γ GX RX 11 [(0, .ref (jad Γ 65)), (1, .long x1), (3, .int x3), (4, .int x4), (5, .int x5), (6, .int x6), (7, .int x7)] [] M Q) (x1 : Int64) (x3 : Int32) (x4 : Int32) (x6 : Int32) (x7 : Int32) (M : jM) (e6 : Int32) (e7 : Int32) (Me : jM) (h : f_X1_pass_L11_b rec x1 x3 x4 x6 x7 M = some (e6, e7, Me)) (hK : jJ Γ GX RX 62 [(0, .ref (jad Γ 65)), (1, .long x1), (3, .int x3), (4, .int x4), (5, .int x5), (6, .int e6), (7, .int e7)] [] Me Q) : jJ Γ GX RX 11 [(0, .ref (jad Γ 65)), (1, .long x1), (3, .int x3), (4, .int x4), (5, .int x5), (6, .int x6), (7, .int x7)] [] M Q := by
  unfold f_X1_pass_L11_b at h
  refine j_iload 6 (pc' := 13) hC dX1_pass_11 rfl rfl ?_
  refine j_bipush (v := 7) (pc' := 15) hC dX1_pass_13 rfl rfl ?_
  refine j_icmp_ge (tgt := 62) (pc' := 18) hC dX1_pass_15 (by decide) rfl (fun c1 => ?_) (fun c1 => ?_)
  · have h := jit_t c1 h
    obtain ⟨q0, q1, q2⟩ := jinj3 h
    subst q0
    subst q1
    subst q2
    refine j_sub [0, 1, 2, 3, 4, 5, 6] rfl ?_
    exact hK
  · have h := jit_f c1 h
    refine j_iload 5 (pc' := 20) hC dX1_pass_18 rfl rfl ?_
    refine j_if_eq (tgt := 62) (pc' := 23) hC dX1_pass_20 (by decide) rfl (fun c2 => ?_) (fun c2 => ?_)
    · have h := jit_t c2 h
      obtain ⟨q0, q1, q2⟩ := jinj3 h
      subst q0
      subst q1
      subst q2
      refine j_sub [0, 1, 2, 3, 4, 5, 6] rfl ?_
      exact hK
    · have h := jit_f c2 h
      refine j_iload 5 (pc' := 25) hC dX1_pass_23 rfl rfl ?_
      refine j_iload 5 (pc' := 27) hC dX1_pass_25 rfl rfl ?_
      refine j_ineg (pc' := 28) hC dX1_pass_27 rfl ?_
      refine j_iand (pc' := 29) hC dX1_pass_28 rfl ?_
      obtain ⟨v3, ev3, h⟩ := jlet_s h
      refine j_istore (pc' := 31) hC dX1_pass_29 rfl ev3 (by decide) rfl ?_
      refine j_iload 6 (pc' := 33) hC dX1_pass_31 rfl rfl ?_
      refine j_iload 0 (pc' := 35) hC dX1_pass_33 rfl rfl ?_
      refine j_isub (pc' := 36) hC dX1_pass_35 rfl ?_
      obtain ⟨v4, ev4, h⟩ := jlet_s h
      refine j_istore (pc' := 38) hC dX1_pass_36 rfl ev4 (by decide) rfl ?_
      refine j_aload_n 2 (pc' := 39) hC dX1_pass_38 rfl rfl ?_
      refine j_getr' (o2 := 66) (pc' := 42) hC dX1_pass_39 rfl fi_X1_9 gx65 rfl ?_
      refine j_iload_n 4 (pc' := 43) hC dX1_pass_42 rfl rfl ?_
      refine j_iload 1 (pc' := 45) hC dX1_pass_43 rfl rfl ?_
      refine j_ior (pc' := 46) hC dX1_pass_45 rfl ?_
      refine j_iconst (v := 3) (pc' := 47) hC dX1_pass_46 rfl rfl ?_
      refine j_imul (pc' := 48) hC dX1_pass_47 rfl ?_
      refine j_iload 5 (pc' := 50) hC dX1_pass_48 rfl rfl ?_
      refine j_iadd (pc' := 51) hC dX1_pass_50 rfl ?_
      refine j_dup2 (pc' := 52) hC dX1_pass_51 rfl rfl rfl ?_
      obtain ⟨g5, h⟩ := jg_s h
      refine j_lald (pc' := 53) hC dX1_pass_52 rfl gx66 g5 ?_
      refine j_lload_n 3 (pc' := 54) hC dX1_pass_53 rfl rfl ?_
      refine j_lor (pc' := 55) hC dX1_pass_54 rfl ?_
      obtain ⟨g6, h⟩ := jg_s h
      obtain ⟨M7, eM7, h⟩ := jlet_s h
      refine j_last' (pc' := 56) hC dX1_pass_55 rfl gx66 g6 eM7 ?_
      obtain ⟨v8, ev8, h⟩ := jlet_s h
      refine j_iinc' 7 (c := 1) (pc' := 59) hC dX1_pass_56 rfl rfl rfl ev8 (by decide) rfl ?_
      refine j_goto (tgt := 11) (pc' := 0) hC dX1_pass_59 (by decide) ?_
      refine j_sub [3, 4, 5, 6, 7, 1, 0] rfl ?_
      exact ih _ _ _ _ _ _ _ _ _ h hK
theorem lp_X1_pass_L11 {Γ : jG} (hC : jOK Γ cX1_pass 9 RX1 (none) { frames := 0, cells := 0, slots := 0, locals := 0 }) {Q : State → Prop} (x5 : Int32) : ∀ (n : Nat) (x1 : Int64) (x3 : Int32) (x4 : Int32) (x6 : Int32) (x7 : Int32) (M : jM) (e6 : Int32) (e7 : Int32) (Me : jM), f_X1_pass_L11 n x1 x3 x4 x6 x7 M = some (e6, e7, Me) → jJ Γ GX RX 62 [(0, .ref (jad Γ 65)), (1, .long x1), (3, .int x3), (4, .int x4), (5, .int x5), (6, .int e6), (7, .int e7)] [] Me Q → jJ Γ GX RX 11 [(0, .ref (jad Γ 65)), (1, .long x1), (3, .int x3), (4, .int x4), (5, .int x5), (6, .int x6), (7, .int x7)] [] M Q := by
  intro n
  induction n with
  | zero =>
    intro x1 x3 x4 x6 x7 M e6 e7 Me h hK
    exact jno h
  | succ n ih =>
    intro x1 x3 x4 x6 x7 M e6 e7 Me h hK
    exact lp_X1_pass_L11_b hC x5 (f_X1_pass_L11 n) ih x1 x3 x4 x6 x7 M e6 e7 Me h hK
theorem t_X1_pass (l : Launch) (E : jE) {a1 : Int64} {a2 : Int32} {a3 : Int32} {a4 : Int32} {M : jM} {M' : jM} (h : f_X1_pass a1 a2 a3 a4 M = some M') : jCv l yX1_pass cX1_pass 9 (none) 0 0 E RX GX (fun a _ => [.ref (a 65), .long a1, .int a2, .int a3, .int a4]) M M' := by
  refine jCv_of (own := RX1) (by decide) rfl (fun _ _ => Nat.le_of_ble_eq_true rfl) ?_
  intro Γ hC
  show jJ Γ GX RX 0 [(0, .ref (jad Γ 65)), (1, .long a1), (3, .int a2), (4, .int a3), (5, .int a4)] [] M (jQv Γ RX GX M')
  unfold f_X1_pass at h
  refine j_iload 4 (pc' := 2) hC dX1_pass_0 rfl rfl ?_
  refine j_iload_n 2 (pc' := 3) hC dX1_pass_2 rfl rfl ?_
  refine j_iconst (v := -1) (pc' := 4) hC dX1_pass_3 rfl rfl ?_
  refine j_ixor (pc' := 5) hC dX1_pass_4 rfl ?_
  refine j_iand (pc' := 6) hC dX1_pass_5 rfl ?_
  obtain ⟨v1, ev1, h⟩ := jlet_s h
  refine j_istore (pc' := 8) hC dX1_pass_6 rfl ev1 (by decide) rfl ?_
  refine j_iconst (v := 0) (pc' := 9) hC dX1_pass_8 rfl rfl ?_
  refine j_istore (pc' := 11) hC dX1_pass_9 rfl rfl (by decide) rfl ?_
  refine j_sub [2, 3, 4, 5, 6, 1, 0] rfl ?_
  obtain ⟨v2, v3, M4, hm5, h⟩ := jb3_s h
  refine lp_X1_pass_L11 hC a4 jfu a1 a2 a3 v1 (0 : Int32) M v2 v3 M4 hm5 ?_
  have q8 := jinj1 h
  subst q8
  exact j_vret hC dX1_pass_62
theorem lp_X1_spread_L31_b {Γ : jG} (hC : jOK Γ cX1_spread 8 RX1 (none) { frames := 2, cells := 0, slots := 0, locals := 47 }) {Q : State → Prop} (rec : Int32 → Int32 → Int64 → Int32 → jM → Option (Int32 × jM)) (ih : ∀ (x1 : Int32) (x2 : Int32) (x3 : Int64) (x5 : Int32) (M : jM) (e5 : Int32) (Me : jM), rec x1 x2 x3 x5 M = some (e5, Me) → jJ Γ GX RX 118 [(0, .ref (jad Γ 65)), (1, .int x1), (2, .int x2), (3, .long x3), (5, .int e5)] [] Me Q → jJ Γ GX RX 31 [(0, .ref (jad Γ 65)), (1, .int x1), (2, .int x2), (3, .long x3), (5, .int x5)] [] M Q) (x1 : Int32) (x2 : Int32) (x3 : Int64) (x5 : Int32) (M : jM) (e5 : Int32) (Me : jM) (h : f_X1_spread_L31_b rec x1 x2 x3 x5 M = some (e5, Me)) (hK : jJ Γ GX RX 118 [(0, .ref (jad Γ 65)), (1, .int x1), (2, .int x2), (3, .long x3), (5, .int e5)] [] Me Q) : jJ Γ GX RX 31 [(0, .ref (jad Γ 65)), (1, .int x1), (2, .int x2), (3, .long x3), (5, .int x5)] [] M Q := by
  unfold f_X1_spread_L31_b at h
  refine j_iload 4 (pc' := 33) hC dX1_spread_31 rfl rfl ?_
  refine j_aload_n 0 (pc' := 34) hC dX1_spread_33 rfl rfl ?_
  refine j_getr' (o2 := 29) (pc' := 37) hC dX1_spread_34 rfl fi_X1_31 gx65 rfl ?_
  refine j_geti' (pc' := 40) hC dX1_spread_37 rfl fi_X1_91 gx29 ?_
  refine j_icmp_ge (tgt := 118) (pc' := 43) hC dX1_spread_40 (by decide) rfl (fun c1 => ?_) (fun c1 => ?_)
  · have h := jit_t c1 h
    obtain ⟨q0, q1⟩ := jinj2 h
    subst q0
    subst q1
    refine j_sub [0, 1, 2, 3, 4] rfl ?_
    exact hK
  · have h := jit_f c1 h
    refine j_lload_n 3 (pc' := 44) hC dX1_spread_43 rfl rfl ?_
    refine j_aload_n 0 (pc' := 45) hC dX1_spread_44 rfl rfl ?_
    refine j_getr' (o2 := 29) (pc' := 48) hC dX1_spread_45 rfl fi_X1_31 gx65 rfl ?_
    refine j_getr' (o2 := 37) (pc' := 51) hC dX1_spread_48 rfl fi_X1_94 gx29 rfl ?_
    refine j_iload 4 (pc' := 53) hC dX1_spread_51 rfl rfl ?_
    obtain ⟨g2, h⟩ := jg_s h
    refine j_lald (pc' := 54) hC dX1_spread_53 rfl gx37 g2 ?_
    refine j_land (pc' := 55) hC dX1_spread_54 rfl ?_
    obtain ⟨v3, ev3, h⟩ := jlet_s h
    refine j_lstore (pc' := 57) hC dX1_spread_55 rfl ev3 (by decide) rfl ?_
    refine j_lload 0 (pc' := 59) hC dX1_spread_57 rfl rfl ?_
    refine j_lconst (v := 0) (pc' := 60) hC dX1_spread_59 rfl rfl ?_
    refine j_lcmp (pc' := 61) hC dX1_spread_60 rfl ?_
    obtain ⟨M15, hm17, h⟩ := jb1_s h
    have K16 : jJ Γ GX RX 112 [(0, .ref (jad Γ 65)), (1, .int x1), (2, .int x2), (3, .long x3), (5, .int x5), (6, .long v3)] [] M15 Q := by
      obtain ⟨v29, ev29, h⟩ := jlet_s h
      refine j_iinc' 4 (c := 1) (pc' := 115) hC dX1_spread_112 rfl rfl rfl ev29 (by decide) rfl ?_
      refine j_goto (tgt := 31) (pc' := 0) hC dX1_spread_115 (by decide) ?_
      refine j_sub [1, 2, 3, 4, 0] rfl ?_
      exact ih _ _ _ _ _ _ _ h hK
    refine j_if_eq (tgt := 112) (pc' := 64) hC dX1_spread_61 (by decide) rfl (fun c18 => ?_) (fun c18 => ?_)
    · have hm17 := jit_t c18 hm17
      have q8 := jinj1 hm17
      subst q8
      exact j_sub [1, 2, 3, 4, 5, 0] rfl K16
    · have hm17 := jit_f c18 hm17
      refine j_aload_n 1 (pc' := 65) hC dX1_spread_64 rfl rfl ?_
      refine j_getr' (o2 := 29) (pc' := 68) hC dX1_spread_65 rfl fi_X1_31 gx65 rfl ?_
      refine j_iload 5 (pc' := 70) hC dX1_spread_68 rfl rfl ?_
      refine j_iload_n 3 (pc' := 71) hC dX1_spread_70 rfl rfl ?_
      obtain ⟨r19, hc20, hm17⟩ := jb1_s hm17
      refine j_callVi [.int x5, .int x2] (pc' := 74) hC dX1_spread_71 rfl (t_X2_isHungry _ _ hc20) gx29 vcl2 cv_X1_97 ⟨⟨Nat.le_of_ble_eq_true rfl, Nat.le_of_ble_eq_true rfl⟩, rfl, Nat.le_of_ble_eq_true rfl⟩ rfl rfl ?_
      refine j_if_eq (tgt := 112) (pc' := 77) hC dX1_spread_74 (by decide) rfl (fun c21 => ?_) (fun c21 => ?_)
      · have hm17 := jit_t c21 hm17
        have q8 := jinj1 hm17
        subst q8
        exact j_sub [1, 2, 3, 4, 5, 0] rfl K16
      · have hm17 := jit_f c21 hm17
        refine j_aload_n 1 (pc' := 78) hC dX1_spread_77 rfl rfl ?_
        refine j_lload 0 (pc' := 80) hC dX1_spread_78 rfl rfl ?_
        refine j_iload 5 (pc' := 82) hC dX1_spread_80 rfl rfl ?_
        obtain ⟨r22, hc23, hm17⟩ := jb1_s hm17
        refine j_callSi [.int x5] (pc' := 85) hC dX1_spread_82 rfl (t_X1_deedBit _ _ hc23) cs_X1_67 ⟨⟨Nat.le_of_ble_eq_true rfl, Nat.le_of_ble_eq_true rfl⟩, rfl, Nat.le_of_ble_eq_true rfl⟩ rfl rfl ?_
        refine j_lshl (pc' := 86) hC dX1_spread_85 rfl ?_
        refine j_iload_n 2 (pc' := 87) hC dX1_spread_86 rfl rfl ?_
        refine j_aload_n 1 (pc' := 88) hC dX1_spread_87 rfl rfl ?_
        refine j_iload_n 3 (pc' := 89) hC dX1_spread_88 rfl rfl ?_
        refine j_iload 5 (pc' := 91) hC dX1_spread_89 rfl rfl ?_
        obtain ⟨r24, hc25, hm17⟩ := jb1_s hm17
        refine j_callVi [.int x2, .int x5] (pc' := 94) hC dX1_spread_91 rfl (t_X1_gapBehind _ _ hc25) gx65 vcl1 cv_X1_64 ⟨⟨Nat.le_of_ble_eq_true rfl, Nat.le_of_ble_eq_true rfl⟩, rfl, Nat.le_of_ble_eq_true rfl⟩ rfl rfl ?_
        refine j_aload_n 1 (pc' := 95) hC dX1_spread_94 rfl rfl ?_
        refine j_geti' (pc' := 98) hC dX1_spread_95 rfl fi_X1_18 gx65 ?_
        refine j_aload_n 1 (pc' := 99) hC dX1_spread_98 rfl rfl ?_
        refine j_getr' (o2 := 29) (pc' := 102) hC dX1_spread_99 rfl fi_X1_31 gx65 rfl ?_
        refine j_getr' (o2 := 38) (pc' := 105) hC dX1_spread_102 rfl fi_X1_100 gx29 rfl ?_
        refine j_iload 5 (pc' := 107) hC dX1_spread_105 rfl rfl ?_
        obtain ⟨g26, hm17⟩ := jg_s hm17
        refine j_iald (pc' := 108) hC dX1_spread_107 rfl gx38 g26 ?_
        refine j_iand (pc' := 109) hC dX1_spread_108 rfl ?_
        obtain ⟨M27, hc28, hm17⟩ := jb1_s hm17
        refine j_callVv [.long (v3 <<< (r22.toInt64 &&& 63)), .int x1, .int r24, .int ((gi M 65 3) &&& (gi M 38 x5.toNatClampNeg))] (pc' := 112) hC dX1_spread_109 rfl (t_X1_pass _ _ hc28) gx65 vcl1 cv_X1_87 ⟨⟨Nat.le_of_ble_eq_true rfl, Nat.le_of_ble_eq_true rfl⟩, rfl, Nat.le_of_ble_eq_true rfl⟩ rfl rfl ?_
        have q8 := jinj1 hm17
        subst q8
        exact j_sub [1, 2, 3, 4, 5, 0] rfl K16
theorem lp_X1_spread_L31 {Γ : jG} (hC : jOK Γ cX1_spread 8 RX1 (none) { frames := 2, cells := 0, slots := 0, locals := 47 }) {Q : State → Prop} : ∀ (n : Nat) (x1 : Int32) (x2 : Int32) (x3 : Int64) (x5 : Int32) (M : jM) (e5 : Int32) (Me : jM), f_X1_spread_L31 n x1 x2 x3 x5 M = some (e5, Me) → jJ Γ GX RX 118 [(0, .ref (jad Γ 65)), (1, .int x1), (2, .int x2), (3, .long x3), (5, .int e5)] [] Me Q → jJ Γ GX RX 31 [(0, .ref (jad Γ 65)), (1, .int x1), (2, .int x2), (3, .long x3), (5, .int x5)] [] M Q := by
  intro n
  induction n with
  | zero =>
    intro x1 x2 x3 x5 M e5 Me h hK
    exact jno h
  | succ n ih =>
    intro x1 x2 x3 x5 M e5 Me h hK
    exact lp_X1_spread_L31_b hC (f_X1_spread_L31 n) ih x1 x2 x3 x5 M e5 Me h hK
theorem t_X1_spread (l : Launch) (E : jE) {a1 : Int32} {a2 : Int32} {M : jM} {M' : jM} (h : f_X1_spread a1 a2 M = some M') : jCv l yX1_spread cX1_spread 8 (none) 2 47 E RX GX (fun a _ => [.ref (a 65), .int a1, .int a2]) M M' := by
  refine jCv_of (own := RX1) (by decide) rfl (fun _ _ => Nat.le_of_ble_eq_true rfl) ?_
  intro Γ hC
  show jJ Γ GX RX 0 [(0, .ref (jad Γ 65)), (1, .int a1), (2, .int a2)] [] M (jQv Γ RX GX M')
  unfold f_X1_spread at h
  refine j_aload_n 0 (pc' := 1) hC dX1_spread_0 rfl rfl ?_
  refine j_getr' (o2 := 66) (pc' := 4) hC dX1_spread_1 rfl fi_X1_9 gx65 rfl ?_
  refine j_iload_n 1 (pc' := 5) hC dX1_spread_4 rfl rfl ?_
  refine j_iconst (v := 3) (pc' := 6) hC dX1_spread_5 rfl rfl ?_
  refine j_imul (pc' := 7) hC dX1_spread_6 rfl ?_
  refine j_iload_n 2 (pc' := 8) hC dX1_spread_7 rfl rfl ?_
  refine j_iadd (pc' := 9) hC dX1_spread_8 rfl ?_
  obtain ⟨g1, h⟩ := jg_s h
  refine j_lald (pc' := 10) hC dX1_spread_9 rfl gx66 g1 ?_
  obtain ⟨v2, ev2, h⟩ := jlet_s h
  refine j_lstore_n (pc' := 11) hC dX1_spread_10 rfl ev2 (by decide) rfl ?_
  refine j_aload_n 1 (pc' := 12) hC dX1_spread_11 rfl rfl ?_
  refine j_lload_n 0 (pc' := 13) hC dX1_spread_12 rfl rfl ?_
  refine j_iload_n 2 (pc' := 14) hC dX1_spread_13 rfl rfl ?_
  refine j_aload_n 1 (pc' := 15) hC dX1_spread_14 rfl rfl ?_
  refine j_iload_n 3 (pc' := 16) hC dX1_spread_15 rfl rfl ?_
  refine j_bipush (v := -9) (pc' := 18) hC dX1_spread_16 rfl rfl ?_
  obtain ⟨r3, hc4, h⟩ := jb1_s h
  refine j_callVi [.int a2, .int (-9 : Int32)] (pc' := 21) hC dX1_spread_18 rfl (t_X1_gapBehind _ _ hc4) gx65 vcl1 cv_X1_64 ⟨⟨Nat.le_of_ble_eq_true rfl, Nat.le_of_ble_eq_true rfl⟩, rfl, Nat.le_of_ble_eq_true rfl⟩ rfl rfl ?_
  refine j_aload_n 1 (pc' := 22) hC dX1_spread_21 rfl rfl ?_
  refine j_geti' (pc' := 25) hC dX1_spread_22 rfl fi_X1_18 gx65 ?_
  obtain ⟨M5, hc6, h⟩ := jb1_s h
  refine j_callVv [.long v2, .int a1, .int r3, .int (gi M 65 3)] (pc' := 28) hC dX1_spread_25 rfl (t_X1_pass _ _ hc6) gx65 vcl1 cv_X1_87 ⟨⟨Nat.le_of_ble_eq_true rfl, Nat.le_of_ble_eq_true rfl⟩, rfl, Nat.le_of_ble_eq_true rfl⟩ rfl rfl ?_
  refine j_iconst (v := 0) (pc' := 29) hC dX1_spread_28 rfl rfl ?_
  refine j_istore (pc' := 31) hC dX1_spread_29 rfl rfl (by decide) rfl ?_
  refine j_sub [2, 3, 4, 1, 0] rfl ?_
  obtain ⟨v7, M8, hm9, h⟩ := jb2_s h
  refine lp_X1_spread_L31 hC  jfu a1 a2 v2 (0 : Int32) M5 v7 M8 hm9 ?_
  have q8 := jinj1 h
  subst q8
  exact j_vret hC dX1_spread_118
theorem lp_X1_explore_L41_b {Γ : jG} (hC : jOK Γ cX1_explore 5 RX1 (none) { frames := 3, cells := 0, slots := 0, locals := 74 }) {Q : State → Prop} (x2 : Int32) (rec : Int32 → Int32 → jM → Option (Int32 × jM)) (ih : ∀ (x3 : Int32) (x4 : Int32) (M : jM) (e4 : Int32) (Me : jM), rec x3 x4 M = some (e4, Me) → jJ Γ GX RX 76 [(0, .ref (jad Γ 65)), (1, .ref (jad Γ 39)), (2, .int x2), (3, .int x3), (4, .int e4)] [] Me Q → jJ Γ GX RX 41 [(0, .ref (jad Γ 65)), (1, .ref (jad Γ 39)), (2, .int x2), (3, .int x3), (4, .int x4)] [] M Q) (x3 : Int32) (x4 : Int32) (M : jM) (e4 : Int32) (Me : jM) (h : f_X1_explore_L41_b rec x3 x4 M = some (e4, Me)) (hK : jJ Γ GX RX 76 [(0, .ref (jad Γ 65)), (1, .ref (jad Γ 39)), (2, .int x2), (3, .int x3), (4, .int e4)] [] Me Q) : jJ Γ GX RX 41 [(0, .ref (jad Γ 65)), (1, .ref (jad Γ 39)), (2, .int x2), (3, .int x3), (4, .int x4)] [] M Q := by
  unfold f_X1_explore_L41_b at h
  refine j_iload 4 (pc' := 43) hC dX1_explore_41 rfl rfl ?_
  refine j_iconst (v := 3) (pc' := 44) hC dX1_explore_43 rfl rfl ?_
  refine j_icmp_ge (tgt := 76) (pc' := 47) hC dX1_explore_44 (by decide) rfl (fun c1 => ?_) (fun c1 => ?_)
  · have h := jit_t c1 h
    obtain ⟨q0, q1⟩ := jinj2 h
    subst q0
    subst q1
    refine j_sub [0, 1, 2, 3, 4] rfl ?_
    exact hK
  · have h := jit_f c1 h
    refine j_aload_n 0 (pc' := 48) hC dX1_explore_47 rfl rfl ?_
    refine j_getr' (o2 := 66) (pc' := 51) hC dX1_explore_48 rfl fi_X1_9 gx65 rfl ?_
    refine j_iload_n 3 (pc' := 52) hC dX1_explore_51 rfl rfl ?_
    refine j_iconst (v := 3) (pc' := 53) hC dX1_explore_52 rfl rfl ?_
    refine j_imul (pc' := 54) hC dX1_explore_53 rfl ?_
    refine j_iload 4 (pc' := 56) hC dX1_explore_54 rfl rfl ?_
    refine j_iadd (pc' := 57) hC dX1_explore_56 rfl ?_
    obtain ⟨g2, h⟩ := jg_s h
    refine j_lald (pc' := 58) hC dX1_explore_57 rfl gx66 g2 ?_
    refine j_lconst (v := 0) (pc' := 59) hC dX1_explore_58 rfl rfl ?_
    refine j_lcmp (pc' := 60) hC dX1_explore_59 rfl ?_
    obtain ⟨M6, hm8, h⟩ := jb1_s h
    have K7 : jJ Γ GX RX 70 [(0, .ref (jad Γ 65)), (1, .ref (jad Γ 39)), (2, .int x2), (3, .int x3), (4, .int x4)] [] M6 Q := by
      obtain ⟨v12, ev12, h⟩ := jlet_s h
      refine j_iinc' 4 (c := 1) (pc' := 73) hC dX1_explore_70 rfl rfl rfl ev12 (by decide) rfl ?_
      refine j_goto (tgt := 41) (pc' := 0) hC dX1_explore_73 (by decide) ?_
      refine j_sub [1, 2, 3, 4, 0] rfl ?_
      exact ih _ _ _ _ _ h hK
    refine j_if_eq (tgt := 70) (pc' := 63) hC dX1_explore_60 (by decide) rfl (fun c9 => ?_) (fun c9 => ?_)
    · have hm8 := jit_t c9 hm8
      have q8 := jinj1 hm8
      subst q8
      exact j_sub [0, 1, 2, 3, 4] rfl K7
    · have hm8 := jit_f c9 hm8
      refine j_aload_n 0 (pc' := 64) hC dX1_explore_63 rfl rfl ?_
      refine j_iload_n 3 (pc' := 65) hC dX1_explore_64 rfl rfl ?_
      refine j_iload 4 (pc' := 67) hC dX1_explore_65 rfl rfl ?_
      obtain ⟨M10, hc11, hm8⟩ := jb1_s hm8
      refine j_callVv [.int x3, .int x4] (pc' := 70) hC dX1_explore_67 rfl (t_X1_spread _ _ hc11) gx65 vcl1 cv_X1_84 ⟨⟨Nat.le_of_ble_eq_true rfl, Nat.le_of_ble_eq_true rfl⟩, rfl, Nat.le_of_ble_eq_true rfl⟩ rfl rfl ?_
      have q8 := jinj1 hm8
      subst q8
      exact j_sub [0, 1, 2, 3, 4] rfl K7
theorem lp_X1_explore_L41 {Γ : jG} (hC : jOK Γ cX1_explore 5 RX1 (none) { frames := 3, cells := 0, slots := 0, locals := 74 }) {Q : State → Prop} (x2 : Int32) : ∀ (n : Nat) (x3 : Int32) (x4 : Int32) (M : jM) (e4 : Int32) (Me : jM), f_X1_explore_L41 n x3 x4 M = some (e4, Me) → jJ Γ GX RX 76 [(0, .ref (jad Γ 65)), (1, .ref (jad Γ 39)), (2, .int x2), (3, .int x3), (4, .int e4)] [] Me Q → jJ Γ GX RX 41 [(0, .ref (jad Γ 65)), (1, .ref (jad Γ 39)), (2, .int x2), (3, .int x3), (4, .int x4)] [] M Q := by
  intro n
  induction n with
  | zero =>
    intro x3 x4 M e4 Me h hK
    exact jno h
  | succ n ih =>
    intro x3 x4 M e4 Me h hK
    exact lp_X1_explore_L41_b hC x2 (f_X1_explore_L41 n) ih x3 x4 M e4 Me h hK
theorem lp_X1_explore_L31_b {Γ : jG} (hC : jOK Γ cX1_explore 5 RX1 (none) { frames := 3, cells := 0, slots := 0, locals := 74 }) {Q : State → Prop} (x2 : Int32) (rec : Int32 → jM → Option (Int32 × jM)) (ih : ∀ (x3 : Int32) (M : jM) (e3 : Int32) (Me : jM), rec x3 M = some (e3, Me) → jJ Γ GX RX 82 [(0, .ref (jad Γ 65)), (1, .ref (jad Γ 39)), (2, .int x2), (3, .int e3)] [] Me Q → jJ Γ GX RX 31 [(0, .ref (jad Γ 65)), (1, .ref (jad Γ 39)), (2, .int x2), (3, .int x3)] [] M Q) (x3 : Int32) (M : jM) (e3 : Int32) (Me : jM) (h : f_X1_explore_L31_b rec x3 M = some (e3, Me)) (hK : jJ Γ GX RX 82 [(0, .ref (jad Γ 65)), (1, .ref (jad Γ 39)), (2, .int x2), (3, .int e3)] [] Me Q) : jJ Γ GX RX 31 [(0, .ref (jad Γ 65)), (1, .ref (jad Γ 39)), (2, .int x2), (3, .int x3)] [] M Q := by
  unfold f_X1_explore_L31_b at h
  refine j_iload_n 3 (pc' := 32) hC dX1_explore_31 rfl rfl ?_
  refine j_sipush (v := 128) (pc' := 35) hC dX1_explore_32 rfl rfl ?_
  refine j_icmp_ge (tgt := 82) (pc' := 38) hC dX1_explore_35 (by decide) rfl (fun c1 => ?_) (fun c1 => ?_)
  · have h := jit_t c1 h
    obtain ⟨q0, q1⟩ := jinj2 h
    subst q0
    subst q1
    refine j_sub [0, 1, 2, 3] rfl ?_
    exact hK
  · have h := jit_f c1 h
    refine j_iconst (v := 0) (pc' := 39) hC dX1_explore_38 rfl rfl ?_
    refine j_istore (pc' := 41) hC dX1_explore_39 rfl rfl (by decide) rfl ?_
    refine j_sub [1, 2, 3, 4, 0] rfl ?_
    obtain ⟨v2, M3, hm4, h⟩ := jb2_s h
    refine lp_X1_explore_L41 hC x2 jfu x3 (0 : Int32) M v2 M3 hm4 ?_
    obtain ⟨v5, ev5, h⟩ := jlet_s h
    refine j_iinc' 3 (c := 1) (pc' := 79) hC dX1_explore_76 rfl rfl rfl ev5 (by decide) rfl ?_
    refine j_goto (tgt := 31) (pc' := 0) hC dX1_explore_79 (by decide) ?_
    refine j_sub [1, 2, 3, 0] rfl ?_
    exact ih _ _ _ _ h hK
theorem lp_X1_explore_L31 {Γ : jG} (hC : jOK Γ cX1_explore 5 RX1 (none) { frames := 3, cells := 0, slots := 0, locals := 74 }) {Q : State → Prop} (x2 : Int32) : ∀ (n : Nat) (x3 : Int32) (M : jM) (e3 : Int32) (Me : jM), f_X1_explore_L31 n x3 M = some (e3, Me) → jJ Γ GX RX 82 [(0, .ref (jad Γ 65)), (1, .ref (jad Γ 39)), (2, .int x2), (3, .int e3)] [] Me Q → jJ Γ GX RX 31 [(0, .ref (jad Γ 65)), (1, .ref (jad Γ 39)), (2, .int x2), (3, .int x3)] [] M Q := by
  intro n
  induction n with
  | zero =>
    intro x3 M e3 Me h hK
    exact jno h
  | succ n ih =>
    intro x3 M e3 Me h hK
    exact lp_X1_explore_L31_b hC x2 (f_X1_explore_L31 n) ih x3 M e3 Me h hK
theorem t_X1_explore (l : Launch) (E : jE) {a2 : Int32} {M : jM} {M' : jM} (h : f_X1_explore a2 M = some M') : jCv l yX1_explore cX1_explore 5 (none) 3 74 E RX GX (fun a _ => [.ref (a 65), .ref (a 39), .int a2]) M M' := by
  refine jCv_of (own := RX1) (by decide) rfl (fun _ _ => Nat.le_of_ble_eq_true rfl) ?_
  intro Γ hC
  show jJ Γ GX RX 0 [(0, .ref (jad Γ 65)), (1, .ref (jad Γ 39)), (2, .int a2)] [] M (jQv Γ RX GX M')
  unfold f_X1_explore at h
  refine j_aload_n 0 (pc' := 1) hC dX1_explore_0 rfl rfl ?_
  refine j_aload_n 1 (pc' := 2) hC dX1_explore_1 rfl rfl ?_
  refine j_iload_n 2 (pc' := 3) hC dX1_explore_2 rfl rfl ?_
  obtain ⟨M1, hc2, h⟩ := jb1_s h
  refine j_callVv [.ref (jad Γ 39), .int a2] (pc' := 6) hC dX1_explore_3 rfl (t_X1_start _ _ hc2) gx65 vcl1 cv_X1_74 ⟨⟨Nat.le_of_ble_eq_true rfl, Nat.le_of_ble_eq_true rfl⟩, rfl, Nat.le_of_ble_eq_true rfl⟩ rfl rfl ?_
  refine j_aload_n 0 (pc' := 7) hC dX1_explore_6 rfl rfl ?_
  refine j_getr' (o2 := 66) (pc' := 10) hC dX1_explore_7 rfl fi_X1_9 gx65 rfl ?_
  refine j_lconst (v := 0) (pc' := 11) hC dX1_explore_10 rfl rfl ?_
  obtain ⟨M3, hc4, h⟩ := jb1_s h
  refine j_callSv [.ref (jad Γ 66), .long (0 : Int64)] (pc' := 14) hC dX1_explore_11 rfl (t_J7_fill_d0a16 _ _ gx66 hc4) cs_X1_78 ⟨⟨Nat.le_of_ble_eq_true rfl, Nat.le_of_ble_eq_true rfl⟩, rfl, Nat.le_of_ble_eq_true rfl⟩ rfl rfl ?_
  refine j_aload_n 0 (pc' := 15) hC dX1_explore_14 rfl rfl ?_
  refine j_getr' (o2 := 66) (pc' := 18) hC dX1_explore_15 rfl fi_X1_9 gx65 rfl ?_
  refine j_aload_n 0 (pc' := 19) hC dX1_explore_18 rfl rfl ?_
  refine j_geti' (pc' := 22) hC dX1_explore_19 rfl fi_X1_25 gx65 ?_
  refine j_lconst (v := 1) (pc' := 23) hC dX1_explore_22 rfl rfl ?_
  refine j_aload_n 0 (pc' := 24) hC dX1_explore_23 rfl rfl ?_
  refine j_geti' (pc' := 27) hC dX1_explore_24 rfl fi_X1_28 gx65 ?_
  refine j_lshl (pc' := 28) hC dX1_explore_27 rfl ?_
  obtain ⟨g5, h⟩ := jg_s h
  obtain ⟨M6, eM6, h⟩ := jlet_s h
  refine j_last' (pc' := 29) hC dX1_explore_28 rfl gx66 g5 eM6 ?_
  refine j_iconst (v := 0) (pc' := 30) hC dX1_explore_29 rfl rfl ?_
  refine j_istore_n (pc' := 31) hC dX1_explore_30 rfl rfl (by decide) rfl ?_
  refine j_sub [1, 2, 3, 0] rfl ?_
  obtain ⟨v7, M8, hm9, h⟩ := jb2_s h
  refine lp_X1_explore_L31 hC a2 jfu (0 : Int32) M6 v7 M8 hm9 ?_
  have q8 := jinj1 h
  subst q8
  exact j_vret hC dX1_explore_82
theorem lp_X1_doneBy_L5_b {Γ : jG} (hC : jOK Γ cX1_doneBy 5 RX1 (some .long) { frames := 0, cells := 0, slots := 0, locals := 0 }) {Q : State → Prop} (rec : Int32 → Int64 → Int32 → jM → Option (Int64 × Int32)) (ih : ∀ (x1 : Int32) (x2 : Int64) (x4 : Int32) (M : jM) (e2 : Int64) (e4 : Int32), rec x1 x2 x4 M = some (e2, e4) → jJ Γ GX RX 31 [(0, .ref (jad Γ 65)), (1, .int x1), (2, .long e2), (4, .int e4)] [] M Q → jJ Γ GX RX 5 [(0, .ref (jad Γ 65)), (1, .int x1), (2, .long x2), (4, .int x4)] [] M Q) (x1 : Int32) (x2 : Int64) (x4 : Int32) (M : jM) (e2 : Int64) (e4 : Int32) (h : f_X1_doneBy_L5_b rec x1 x2 x4 M = some (e2, e4)) (hK : jJ Γ GX RX 31 [(0, .ref (jad Γ 65)), (1, .int x1), (2, .long e2), (4, .int e4)] [] M Q) : jJ Γ GX RX 5 [(0, .ref (jad Γ 65)), (1, .int x1), (2, .long x2), (4, .int x4)] [] M Q := by
  unfold f_X1_doneBy_L5_b at h
  refine j_iload 3 (pc' := 7) hC dX1_doneBy_5 rfl rfl ?_
  refine j_iconst (v := 3) (pc' := 8) hC dX1_doneBy_7 rfl rfl ?_
  refine j_icmp_ge (tgt := 31) (pc' := 11) hC dX1_doneBy_8 (by decide) rfl (fun c1 => ?_) (fun c1 => ?_)
  · have h := jit_t c1 h
    obtain ⟨q0, q1⟩ := jinj2 h
    subst q0
    subst q1
    refine j_sub [0, 1, 2, 3] rfl ?_
    exact hK
  · have h := jit_f c1 h
    refine j_lload_n 2 (pc' := 12) hC dX1_doneBy_11 rfl rfl ?_
    refine j_aload_n 0 (pc' := 13) hC dX1_doneBy_12 rfl rfl ?_
    refine j_getr' (o2 := 66) (pc' := 16) hC dX1_doneBy_13 rfl fi_X1_9 gx65 rfl ?_
    refine j_iload_n 1 (pc' := 17) hC dX1_doneBy_16 rfl rfl ?_
    refine j_iconst (v := 3) (pc' := 18) hC dX1_doneBy_17 rfl rfl ?_
    refine j_imul (pc' := 19) hC dX1_doneBy_18 rfl ?_
    refine j_iload 3 (pc' := 21) hC dX1_doneBy_19 rfl rfl ?_
    refine j_iadd (pc' := 22) hC dX1_doneBy_21 rfl ?_
    obtain ⟨g2, h⟩ := jg_s h
    refine j_lald (pc' := 23) hC dX1_doneBy_22 rfl gx66 g2 ?_
    refine j_lor (pc' := 24) hC dX1_doneBy_23 rfl ?_
    obtain ⟨v3, ev3, h⟩ := jlet_s h
    refine j_lstore_n (pc' := 25) hC dX1_doneBy_24 rfl ev3 (by decide) rfl ?_
    obtain ⟨v4, ev4, h⟩ := jlet_s h
    refine j_iinc' 3 (c := 1) (pc' := 28) hC dX1_doneBy_25 rfl rfl rfl ev4 (by decide) rfl ?_
    refine j_goto (tgt := 5) (pc' := 0) hC dX1_doneBy_28 (by decide) ?_
    refine j_sub [2, 3, 1, 0] rfl ?_
    exact ih _ _ _ _ _ _ h hK
theorem lp_X1_doneBy_L5 {Γ : jG} (hC : jOK Γ cX1_doneBy 5 RX1 (some .long) { frames := 0, cells := 0, slots := 0, locals := 0 }) {Q : State → Prop} : ∀ (n : Nat) (x1 : Int32) (x2 : Int64) (x4 : Int32) (M : jM) (e2 : Int64) (e4 : Int32), f_X1_doneBy_L5 n x1 x2 x4 M = some (e2, e4) → jJ Γ GX RX 31 [(0, .ref (jad Γ 65)), (1, .int x1), (2, .long e2), (4, .int e4)] [] M Q → jJ Γ GX RX 5 [(0, .ref (jad Γ 65)), (1, .int x1), (2, .long x2), (4, .int x4)] [] M Q := by
  intro n
  induction n with
  | zero =>
    intro x1 x2 x4 M e2 e4 h hK
    exact jno h
  | succ n ih =>
    intro x1 x2 x4 M e2 e4 h hK
    exact lp_X1_doneBy_L5_b hC (f_X1_doneBy_L5 n) ih x1 x2 x4 M e2 e4 h hK
theorem t_X1_doneBy (l : Launch) (E : jE) {a1 : Int32} {M : jM} {r : Int64} (h : f_X1_doneBy a1 M = some r) : jCl l yX1_doneBy cX1_doneBy 5 (some .long) 0 0 E RX GX (fun a _ => [.ref (a 65), .int a1]) M r M := by
  refine jCl_of (own := RX1) (by decide) rfl (fun _ _ => Nat.le_of_ble_eq_true rfl) ?_
  intro Γ hC
  show jJ Γ GX RX 0 [(0, .ref (jad Γ 65)), (1, .int a1)] [] M (jQl Γ RX GX r M)
  unfold f_X1_doneBy at h
  refine j_lconst (v := 0) (pc' := 1) hC dX1_doneBy_0 rfl rfl ?_
  refine j_lstore_n (pc' := 2) hC dX1_doneBy_1 rfl rfl (by decide) rfl ?_
  refine j_iconst (v := 0) (pc' := 3) hC dX1_doneBy_2 rfl rfl ?_
  refine j_istore (pc' := 5) hC dX1_doneBy_3 rfl rfl (by decide) rfl ?_
  refine j_sub [2, 3, 1, 0] rfl ?_
  obtain ⟨v1, v2, hm3, h⟩ := jb2_s h
  refine lp_X1_doneBy_L5 hC  jfu a1 (0 : Int64) (0 : Int32) M v1 v2 hm3 ?_
  refine j_lload_n 2 (pc' := 32) hC dX1_doneBy_31 rfl rfl ?_
  have q8 := jinj1 h
  subst q8
  exact j_lret hC dX1_doneBy_32
theorem lp_X1_largestOf_L3_b {Γ : jG} (hC : jOK Γ cX1_largestOf 3 RX1 (some .int) { frames := 0, cells := 0, slots := 0, locals := 0 }) {Q : State → Prop} (rec : Int64 → Int32 → jM → Option (Int32)) (ih : ∀ (x0 : Int64) (x2 : Int32) (M : jM) (e2 : Int32), rec x0 x2 M = some e2 → jJ Γ GX RX 25 [(0, .long x0), (2, .int e2)] [] M Q → jJ Γ GX RX 3 [(0, .long x0), (2, .int x2)] [] M Q) (x0 : Int64) (x2 : Int32) (M : jM) (e2 : Int32) (h : f_X1_largestOf_L3_b rec x0 x2 M = some e2) (hK : jJ Γ GX RX 25 [(0, .long x0), (2, .int e2)] [] M Q) : jJ Γ GX RX 3 [(0, .long x0), (2, .int x2)] [] M Q := by
  unfold f_X1_largestOf_L3_b at h
  refine j_iload_n 1 (pc' := 4) hC dX1_largestOf_3 rfl rfl ?_
  refine j_if_le (tgt := 25) (pc' := 7) hC dX1_largestOf_4 (by decide) rfl (fun c1 => ?_) (fun c1 => ?_)
  · have h := jit_t c1 h
    have q8 := jinj1 h
    subst q8
    refine j_sub [0, 1] rfl ?_
    exact hK
  · have h := jit_f c1 h
    refine j_lload_n 0 (pc' := 8) hC dX1_largestOf_7 rfl rfl ?_
    refine j_gets 3 (pc' := 11) hC dX1_largestOf_8 rfl (by decide) (by decide +kernel) ?_
    refine j_iload_n 1 (pc' := 12) hC dX1_largestOf_11 rfl rfl ?_
    obtain ⟨g2, h⟩ := jg_s h
    refine j_sldl 3 (pc' := 13) hC dX1_largestOf_12 rfl (by decide) g2 ?_
    refine j_land (pc' := 14) hC dX1_largestOf_13 rfl ?_
    refine j_lconst (v := 0) (pc' := 15) hC dX1_largestOf_14 rfl rfl ?_
    refine j_lcmp (pc' := 16) hC dX1_largestOf_15 rfl ?_
    refine j_if_ne (tgt := 25) (pc' := 19) hC dX1_largestOf_16 (by decide) rfl (fun c3 => ?_) (fun c3 => ?_)
    · have h := jit_f c3 h
      have q8 := jinj1 h
      subst q8
      refine j_sub [0, 1] rfl ?_
      exact hK
    · have h := jit_t c3 h
      obtain ⟨v4, ev4, h⟩ := jlet_s h
      refine j_iinc' 1 (c := -1) (pc' := 22) hC dX1_largestOf_19 rfl rfl rfl ev4 (by decide) rfl ?_
      refine j_goto (tgt := 3) (pc' := 0) hC dX1_largestOf_22 (by decide) ?_
      refine j_sub [1, 0] rfl ?_
      exact ih _ _ _ _ h hK
theorem lp_X1_largestOf_L3 {Γ : jG} (hC : jOK Γ cX1_largestOf 3 RX1 (some .int) { frames := 0, cells := 0, slots := 0, locals := 0 }) {Q : State → Prop} : ∀ (n : Nat) (x0 : Int64) (x2 : Int32) (M : jM) (e2 : Int32), f_X1_largestOf_L3 n x0 x2 M = some e2 → jJ Γ GX RX 25 [(0, .long x0), (2, .int e2)] [] M Q → jJ Γ GX RX 3 [(0, .long x0), (2, .int x2)] [] M Q := by
  intro n
  induction n with
  | zero =>
    intro x0 x2 M e2 h hK
    exact jno h
  | succ n ih =>
    intro x0 x2 M e2 h hK
    exact lp_X1_largestOf_L3_b hC (f_X1_largestOf_L3 n) ih x0 x2 M e2 h hK
theorem t_X1_largestOf (l : Launch) (E : jE) {a1 : Int64} {M : jM} {r : Int32} (h : f_X1_largestOf a1 M = some r) : jCi l yX1_largestOf cX1_largestOf 3 (some .int) 0 0 E RX GX (fun _ _ => [.long a1]) M r M := by
  refine jCi_of (own := RX1) (by decide) rfl (fun _ _ => Nat.le_of_ble_eq_true rfl) ?_
  intro Γ hC
  show jJ Γ GX RX 0 [(0, .long a1)] [] M (jQi Γ RX GX r M)
  unfold f_X1_largestOf at h
  refine j_bipush (v := 6) (pc' := 2) hC dX1_largestOf_0 rfl rfl ?_
  refine j_istore_n (pc' := 3) hC dX1_largestOf_2 rfl rfl (by decide) rfl ?_
  refine j_sub [1, 0] rfl ?_
  obtain ⟨v1, hm2, h⟩ := jb1_s h
  refine lp_X1_largestOf_L3 hC  jfu a1 (6 : Int32) M v1 hm2 ?_
  refine j_iload_n 1 (pc' := 26) hC dX1_largestOf_25 rfl rfl ?_
  have q8 := jinj1 h
  subst q8
  exact j_iret hC dX1_largestOf_26
theorem lp_X1_mostDone_L5_b {Γ : jG} (hC : jOK Γ cX1_mostDone 5 RX1 (some .int) { frames := 1, cells := 0, slots := 0, locals := 24 }) {Q : State → Prop} (rec : Int32 → Int64 → Int32 → jM → Option (Int64 × Int32)) (ih : ∀ (x1 : Int32) (x2 : Int64) (x4 : Int32) (M : jM) (e2 : Int64) (e4 : Int32), rec x1 x2 x4 M = some (e2, e4) → jJ Γ GX RX 39 [(0, .ref (jad Γ 65)), (1, .int x1), (2, .long e2), (4, .int e4)] [] M Q → jJ Γ GX RX 5 [(0, .ref (jad Γ 65)), (1, .int x1), (2, .long x2), (4, .int x4)] [] M Q) (x1 : Int32) (x2 : Int64) (x4 : Int32) (M : jM) (e2 : Int64) (e4 : Int32) (h : f_X1_mostDone_L5_b rec x1 x2 x4 M = some (e2, e4)) (hK : jJ Γ GX RX 39 [(0, .ref (jad Γ 65)), (1, .int x1), (2, .long e2), (4, .int e4)] [] M Q) : jJ Γ GX RX 5 [(0, .ref (jad Γ 65)), (1, .int x1), (2, .long x2), (4, .int x4)] [] M Q := by
  unfold f_X1_mostDone_L5_b at h
  refine j_iload 3 (pc' := 7) hC dX1_mostDone_5 rfl rfl ?_
  refine j_sipush (v := 128) (pc' := 10) hC dX1_mostDone_7 rfl rfl ?_
  refine j_icmp_ge (tgt := 39) (pc' := 13) hC dX1_mostDone_10 (by decide) rfl (fun c1 => ?_) (fun c1 => ?_)
  · have h := jit_t c1 h
    obtain ⟨q0, q1⟩ := jinj2 h
    subst q0
    subst q1
    refine j_sub [0, 1, 2, 3] rfl ?_
    exact hK
  · have h := jit_f c1 h
    refine j_lload_n 2 (pc' := 14) hC dX1_mostDone_13 rfl rfl ?_
    refine j_iload 3 (pc' := 16) hC dX1_mostDone_14 rfl rfl ?_
    refine j_iload_n 1 (pc' := 17) hC dX1_mostDone_16 rfl rfl ?_
    refine j_iand (pc' := 18) hC dX1_mostDone_17 rfl ?_
    obtain ⟨v5, hm7, h⟩ := jb1_s h
    have K6 : jJ Γ GX RX 31 [(0, .ref (jad Γ 65)), (1, .int x1), (2, .long x2), (4, .int x4)] [.long v5, .long x2] M Q := by
      refine j_lor (pc' := 32) hC dX1_mostDone_31 rfl ?_
      obtain ⟨v11, ev11, h⟩ := jlet_s h
      refine j_lstore_n (pc' := 33) hC dX1_mostDone_32 rfl ev11 (by decide) rfl ?_
      obtain ⟨v12, ev12, h⟩ := jlet_s h
      refine j_iinc' 3 (c := 1) (pc' := 36) hC dX1_mostDone_33 rfl rfl rfl ev12 (by decide) rfl ?_
      refine j_goto (tgt := 5) (pc' := 0) hC dX1_mostDone_36 (by decide) ?_
      refine j_sub [2, 3, 1, 0] rfl ?_
      exact ih _ _ _ _ _ _ h hK
    refine j_if_ne (tgt := 30) (pc' := 21) hC dX1_mostDone_18 (by decide) rfl (fun c8 => ?_) (fun c8 => ?_)
    · have hm7 := jit_f c8 hm7
      refine j_lconst (v := 0) (pc' := 31) hC dX1_mostDone_30 rfl rfl ?_
      have q8 := jinj1 hm7
      subst q8
      exact j_sub [0, 1, 2, 3] rfl K6
    · have hm7 := jit_t c8 hm7
      refine j_aload_n 0 (pc' := 22) hC dX1_mostDone_21 rfl rfl ?_
      refine j_iload 3 (pc' := 24) hC dX1_mostDone_22 rfl rfl ?_
      obtain ⟨r9, hc10, hm7⟩ := jb1_s hm7
      refine j_callVl [.int x4] (pc' := 27) hC dX1_mostDone_24 rfl (t_X1_doneBy _ _ hc10) gx65 vcl1 cv_X1_104 ⟨⟨Nat.le_of_ble_eq_true rfl, Nat.le_of_ble_eq_true rfl⟩, rfl, Nat.le_of_ble_eq_true rfl⟩ rfl rfl ?_
      refine j_goto (tgt := 31) (pc' := 0) hC dX1_mostDone_27 (by decide) ?_
      have q8 := jinj1 hm7
      subst q8
      exact j_sub [0, 1, 2, 3] rfl K6
theorem lp_X1_mostDone_L5 {Γ : jG} (hC : jOK Γ cX1_mostDone 5 RX1 (some .int) { frames := 1, cells := 0, slots := 0, locals := 24 }) {Q : State → Prop} : ∀ (n : Nat) (x1 : Int32) (x2 : Int64) (x4 : Int32) (M : jM) (e2 : Int64) (e4 : Int32), f_X1_mostDone_L5 n x1 x2 x4 M = some (e2, e4) → jJ Γ GX RX 39 [(0, .ref (jad Γ 65)), (1, .int x1), (2, .long e2), (4, .int e4)] [] M Q → jJ Γ GX RX 5 [(0, .ref (jad Γ 65)), (1, .int x1), (2, .long x2), (4, .int x4)] [] M Q := by
  intro n
  induction n with
  | zero =>
    intro x1 x2 x4 M e2 e4 h hK
    exact jno h
  | succ n ih =>
    intro x1 x2 x4 M e2 e4 h hK
    exact lp_X1_mostDone_L5_b hC (f_X1_mostDone_L5 n) ih x1 x2 x4 M e2 e4 h hK
theorem t_X1_mostDone (l : Launch) (E : jE) {a1 : Int32} {M : jM} {r : Int32} (h : f_X1_mostDone a1 M = some r) : jCi l yX1_mostDone cX1_mostDone 5 (some .int) 1 24 E RX GX (fun a _ => [.ref (a 65), .int a1]) M r M := by
  refine jCi_of (own := RX1) (by decide) rfl (fun _ _ => Nat.le_of_ble_eq_true rfl) ?_
  intro Γ hC
  show jJ Γ GX RX 0 [(0, .ref (jad Γ 65)), (1, .int a1)] [] M (jQi Γ RX GX r M)
  unfold f_X1_mostDone at h
  refine j_lconst (v := 0) (pc' := 1) hC dX1_mostDone_0 rfl rfl ?_
  refine j_lstore_n (pc' := 2) hC dX1_mostDone_1 rfl rfl (by decide) rfl ?_
  refine j_iconst (v := 0) (pc' := 3) hC dX1_mostDone_2 rfl rfl ?_
  refine j_istore (pc' := 5) hC dX1_mostDone_3 rfl rfl (by decide) rfl ?_
  refine j_sub [2, 3, 1, 0] rfl ?_
  obtain ⟨v1, v2, hm3, h⟩ := jb2_s h
  refine lp_X1_mostDone_L5 hC  jfu a1 (0 : Int64) (0 : Int32) M v1 v2 hm3 ?_
  refine j_lload_n 2 (pc' := 40) hC dX1_mostDone_39 rfl rfl ?_
  obtain ⟨r4, hc5, h⟩ := jb1_s h
  refine j_callSi [.long v1] (pc' := 43) hC dX1_mostDone_40 rfl (t_X1_largestOf _ _ hc5) cs_X1_114 ⟨⟨Nat.le_of_ble_eq_true rfl, Nat.le_of_ble_eq_true rfl⟩, rfl, Nat.le_of_ble_eq_true rfl⟩ rfl rfl ?_
  have q8 := jinj1 h
  subst q8
  exact j_iret hC dX1_mostDone_43
theorem lp_X1_fewestHoursFor_L5_b {Γ : jG} (hC : jOK Γ cX1_fewestHoursFor 5 RX1 (some .int) { frames := 1, cells := 0, slots := 0, locals := 24 }) {Q : State → Prop} (rec : Int32 → Int32 → Int32 → jM → Option (Int32 × Int32)) (ih : ∀ (x1 : Int32) (x2 : Int32) (x3 : Int32) (M : jM) (e2 : Int32) (e3 : Int32), rec x1 x2 x3 M = some (e2, e3) → jJ Γ GX RX 49 [(0, .ref (jad Γ 65)), (1, .int x1), (2, .int e2), (3, .int e3)] [] M Q → jJ Γ GX RX 5 [(0, .ref (jad Γ 65)), (1, .int x1), (2, .int x2), (3, .int x3)] [] M Q) (x1 : Int32) (x2 : Int32) (x3 : Int32) (M : jM) (e2 : Int32) (e3 : Int32) (h : f_X1_fewestHoursFor_L5_b rec x1 x2 x3 M = some (e2, e3)) (hK : jJ Γ GX RX 49 [(0, .ref (jad Γ 65)), (1, .int x1), (2, .int e2), (3, .int e3)] [] M Q) : jJ Γ GX RX 5 [(0, .ref (jad Γ 65)), (1, .int x1), (2, .int x2), (3, .int x3)] [] M Q := by
  unfold f_X1_fewestHoursFor_L5_b at h
  refine j_iload_n 3 (pc' := 6) hC dX1_fewestHoursFor_5 rfl rfl ?_
  refine j_sipush (v := 128) (pc' := 9) hC dX1_fewestHoursFor_6 rfl rfl ?_
  refine j_icmp_ge (tgt := 49) (pc' := 12) hC dX1_fewestHoursFor_9 (by decide) rfl (fun c1 => ?_) (fun c1 => ?_)
  · have h := jit_t c1 h
    obtain ⟨q0, q1⟩ := jinj2 h
    subst q0
    subst q1
    refine j_sub [0, 1, 2, 3] rfl ?_
    exact hK
  · have h := jit_f c1 h
    refine j_iload_n 3 (pc' := 13) hC dX1_fewestHoursFor_12 rfl rfl ?_
    obtain ⟨r2, hc3, h⟩ := jb1_s h
    refine j_callSi [.int x3] (pc' := 16) hC dX1_fewestHoursFor_13 rfl (t_J6_bitCount_0f7a4 _ _ hc3) cs_X1_118 ⟨⟨Nat.le_of_ble_eq_true rfl, Nat.le_of_ble_eq_true rfl⟩, rfl, Nat.le_of_ble_eq_true rfl⟩ rfl rfl ?_
    refine j_istore (pc' := 18) hC dX1_fewestHoursFor_16 rfl rfl (by decide) rfl ?_
    refine j_iload 0 (pc' := 20) hC dX1_fewestHoursFor_18 rfl rfl ?_
    refine j_iload_n 3 (pc' := 21) hC dX1_fewestHoursFor_20 rfl rfl ?_
    obtain ⟨v9, hm11, h⟩ := jb1_s h
    have K10 : jJ Γ GX RX 43 [(0, .ref (jad Γ 65)), (1, .int x1), (2, .int v9), (3, .int x3), (4, .int r2)] [] M Q := by
      obtain ⟨v17, ev17, h⟩ := jlet_s h
      refine j_iinc' 3 (c := 1) (pc' := 46) hC dX1_fewestHoursFor_43 rfl rfl rfl ev17 (by decide) rfl ?_
      refine j_goto (tgt := 5) (pc' := 0) hC dX1_fewestHoursFor_46 (by decide) ?_
      refine j_sub [1, 2, 3, 0] rfl ?_
      exact ih _ _ _ _ _ _ h hK
    refine j_icmp_ge (tgt := 43) (pc' := 24) hC dX1_fewestHoursFor_21 (by decide) rfl (fun c12 => ?_) (fun c12 => ?_)
    · have hm11 := jit_t c12 hm11
      have q8 := jinj1 hm11
      subst q8
      exact j_sub [1, 2, 3, 4, 0] rfl K10
    · have hm11 := jit_f c12 hm11
      refine j_aload_n 1 (pc' := 25) hC dX1_fewestHoursFor_24 rfl rfl ?_
      refine j_iload_n 4 (pc' := 26) hC dX1_fewestHoursFor_25 rfl rfl ?_
      obtain ⟨r13, hc14, hm11⟩ := jb1_s hm11
      refine j_callVl [.int x3] (pc' := 29) hC dX1_fewestHoursFor_26 rfl (t_X1_doneBy _ _ hc14) gx65 vcl1 cv_X1_104 ⟨⟨Nat.le_of_ble_eq_true rfl, Nat.le_of_ble_eq_true rfl⟩, rfl, Nat.le_of_ble_eq_true rfl⟩ rfl rfl ?_
      refine j_gets 3 (pc' := 32) hC dX1_fewestHoursFor_29 rfl (by decide) (by decide +kernel) ?_
      refine j_iload_n 2 (pc' := 33) hC dX1_fewestHoursFor_32 rfl rfl ?_
      obtain ⟨g15, hm11⟩ := jg_s hm11
      refine j_sldl 3 (pc' := 34) hC dX1_fewestHoursFor_33 rfl (by decide) g15 ?_
      refine j_land (pc' := 35) hC dX1_fewestHoursFor_34 rfl ?_
      refine j_lconst (v := 0) (pc' := 36) hC dX1_fewestHoursFor_35 rfl rfl ?_
      refine j_lcmp (pc' := 37) hC dX1_fewestHoursFor_36 rfl ?_
      refine j_if_eq (tgt := 43) (pc' := 40) hC dX1_fewestHoursFor_37 (by decide) rfl (fun c16 => ?_) (fun c16 => ?_)
      · have hm11 := jit_t c16 hm11
        have q8 := jinj1 hm11
        subst q8
        exact j_sub [1, 2, 3, 4, 0] rfl K10
      · have hm11 := jit_f c16 hm11
        refine j_iload 0 (pc' := 42) hC dX1_fewestHoursFor_40 rfl rfl ?_
        refine j_istore_n (pc' := 43) hC dX1_fewestHoursFor_42 rfl rfl (by decide) rfl ?_
        have q8 := jinj1 hm11
        subst q8
        exact j_sub [2, 3, 0, 4, 1] rfl K10
theorem lp_X1_fewestHoursFor_L5 {Γ : jG} (hC : jOK Γ cX1_fewestHoursFor 5 RX1 (some .int) { frames := 1, cells := 0, slots := 0, locals := 24 }) {Q : State → Prop} : ∀ (n : Nat) (x1 : Int32) (x2 : Int32) (x3 : Int32) (M : jM) (e2 : Int32) (e3 : Int32), f_X1_fewestHoursFor_L5 n x1 x2 x3 M = some (e2, e3) → jJ Γ GX RX 49 [(0, .ref (jad Γ 65)), (1, .int x1), (2, .int e2), (3, .int e3)] [] M Q → jJ Γ GX RX 5 [(0, .ref (jad Γ 65)), (1, .int x1), (2, .int x2), (3, .int x3)] [] M Q := by
  intro n
  induction n with
  | zero =>
    intro x1 x2 x3 M e2 e3 h hK
    exact jno h
  | succ n ih =>
    intro x1 x2 x3 M e2 e3 h hK
    exact lp_X1_fewestHoursFor_L5_b hC (f_X1_fewestHoursFor_L5 n) ih x1 x2 x3 M e2 e3 h hK
theorem t_X1_fewestHoursFor (l : Launch) (E : jE) {a1 : Int32} {M : jM} {r : Int32} (h : f_X1_fewestHoursFor a1 M = some r) : jCi l yX1_fewestHoursFor cX1_fewestHoursFor 5 (some .int) 1 24 E RX GX (fun a _ => [.ref (a 65), .int a1]) M r M := by
  refine jCi_of (own := RX1) (by decide) rfl (fun _ _ => Nat.le_of_ble_eq_true rfl) ?_
  intro Γ hC
  show jJ Γ GX RX 0 [(0, .ref (jad Γ 65)), (1, .int a1)] [] M (jQi Γ RX GX r M)
  unfold f_X1_fewestHoursFor at h
  refine j_bipush (v := 7) (pc' := 2) hC dX1_fewestHoursFor_0 rfl rfl ?_
  refine j_istore_n (pc' := 3) hC dX1_fewestHoursFor_2 rfl rfl (by decide) rfl ?_
  refine j_iconst (v := 0) (pc' := 4) hC dX1_fewestHoursFor_3 rfl rfl ?_
  refine j_istore_n (pc' := 5) hC dX1_fewestHoursFor_4 rfl rfl (by decide) rfl ?_
  refine j_sub [2, 3, 1, 0] rfl ?_
  obtain ⟨v1, v2, hm3, h⟩ := jb2_s h
  refine lp_X1_fewestHoursFor_L5 hC  jfu a1 (7 : Int32) (0 : Int32) M v1 v2 hm3 ?_
  refine j_iload_n 2 (pc' := 50) hC dX1_fewestHoursFor_49 rfl rfl ?_
  have q8 := jinj1 h
  subst q8
  exact j_iret hC dX1_fewestHoursFor_50
theorem t_X5_most (l : Launch) (E : jE) {M : jM} {r : Int32} {M' : jM} (h : f_X5_most M = some (r, M')) : jCi l yX5_most cX5_most 2 (some .int) 4 98 E RX GX (fun a _ => [.ref (a 0)]) M r M' := by
  refine jCi_of (own := RX5) (by decide) rfl (fun _ _ => Nat.le_of_ble_eq_true rfl) ?_
  intro Γ hC
  show jJ Γ GX RX 0 [(0, .ref (jad Γ 0))] [] M (jQi Γ RX GX r M')
  unfold f_X5_most at h
  refine j_aload_n 0 (pc' := 1) hC dX5_most_0 rfl rfl ?_
  refine j_getr' (o2 := 29) (pc' := 4) hC dX5_most_1 rfl fi_X5_31 gx0 rfl ?_
  refine j_geti' (pc' := 7) hC dX5_most_4 rfl fi_X5_140 gx29 ?_
  refine j_if_ne (tgt := 13) (pc' := 10) hC dX5_most_7 (by decide) rfl (fun c1 => ?_) (fun c1 => ?_)
  · have h := jit_f c1 h
    refine j_aload_n 0 (pc' := 14) hC dX5_most_13 rfl rfl ?_
    refine j_getr' (o2 := 65) (pc' := 17) hC dX5_most_14 rfl fi_X5_55 gx0 rfl ?_
    refine j_aload_n 0 (pc' := 18) hC dX5_most_17 rfl rfl ?_
    refine j_getr' (o2 := 39) (pc' := 21) hC dX5_most_18 rfl fi_X5_40 gx0 rfl ?_
    refine j_aload_n 0 (pc' := 22) hC dX5_most_21 rfl rfl ?_
    refine j_getr' (o2 := 39) (pc' := 25) hC dX5_most_22 rfl fi_X5_40 gx0 rfl ?_
    obtain ⟨r2, hc3, h⟩ := jb1_s h
    refine j_callVi [] (pc' := 28) hC dX5_most_25 rfl (t_X0_shelfBits _ _ hc3) gx39 vcl0 cv_X5_209 ⟨⟨Nat.le_of_ble_eq_true rfl, Nat.le_of_ble_eq_true rfl⟩, rfl, Nat.le_of_ble_eq_true rfl⟩ rfl rfl ?_
    obtain ⟨M4, hc5, h⟩ := jb1_s h
    refine j_callVv [.ref (jad Γ 39), .int r2] (pc' := 31) hC dX5_most_28 rfl (t_X1_explore _ _ hc5) gx65 vcl1 cv_X5_254 ⟨⟨Nat.le_of_ble_eq_true rfl, Nat.le_of_ble_eq_true rfl⟩, rfl, Nat.le_of_ble_eq_true rfl⟩ rfl rfl ?_
    refine j_aload_n 0 (pc' := 32) hC dX5_most_31 rfl rfl ?_
    refine j_getr' (o2 := 65) (pc' := 35) hC dX5_most_32 rfl fi_X5_55 gx0 rfl ?_
    refine j_iconst (v := 0) (pc' := 36) hC dX5_most_35 rfl rfl ?_
    obtain ⟨r6, hc7, h⟩ := jb1_s h
    refine j_callVi [.int (0 : Int32)] (pc' := 39) hC dX5_most_36 rfl (t_X1_mostDone _ _ hc7) gx65 vcl1 cv_X5_257 ⟨⟨Nat.le_of_ble_eq_true rfl, Nat.le_of_ble_eq_true rfl⟩, rfl, Nat.le_of_ble_eq_true rfl⟩ rfl rfl ?_
    refine j_istore_n (pc' := 40) hC dX5_most_39 rfl rfl (by decide) rfl ?_
    refine j_aload_n 1 (pc' := 41) hC dX5_most_40 rfl rfl ?_
    refine j_aload_n 1 (pc' := 42) hC dX5_most_41 rfl rfl ?_
    refine j_getr' (o2 := 65) (pc' := 45) hC dX5_most_42 rfl fi_X5_55 gx0 rfl ?_
    refine j_iload_n 0 (pc' := 46) hC dX5_most_45 rfl rfl ?_
    obtain ⟨r8, hc9, h⟩ := jb1_s h
    refine j_callVi [.int r6] (pc' := 49) hC dX5_most_46 rfl (t_X1_fewestHoursFor _ _ hc9) gx65 vcl1 cv_X5_260 ⟨⟨Nat.le_of_ble_eq_true rfl, Nat.le_of_ble_eq_true rfl⟩, rfl, Nat.le_of_ble_eq_true rfl⟩ rfl rfl ?_
    obtain ⟨M10, eM10, h⟩ := jlet_s h
    refine j_puti' (pc' := 52) hC dX5_most_49 rfl fp_X5_67 gx0 eM10 ?_
    refine j_iload_n 0 (pc' := 53) hC dX5_most_52 rfl rfl ?_
    obtain ⟨q0, q1⟩ := jinj2 h
    subst q0
    subst q1
    exact j_iret hC dX5_most_53
  · have h := jit_t c1 h
    refine j_bipush (v := -4) (pc' := 12) hC dX5_most_10 rfl rfl ?_
    obtain ⟨q0, q1⟩ := jinj2 h
    subst q0
    subst q1
    exact j_iret hC dX5_most_12
theorem t_X1_does (l : Launch) (E : jE) {a1 : Int32} {a2 : Int32} {M : jM} {r : Int32} (h : f_X1_does a1 a2 M = some r) : jCi l yX1_does cX1_does 3 (some .boolean) 1 24 E RX GX (fun a _ => [.ref (a 65), .int a1, .int a2]) M r M := by
  refine jCi_of (own := RX1) (by decide) rfl (fun _ _ => Nat.le_of_ble_eq_true rfl) ?_
  intro Γ hC
  show jJ Γ GX RX 0 [(0, .ref (jad Γ 65)), (1, .int a1), (2, .int a2)] [] M (jQi Γ RX GX r M)
  unfold f_X1_does at h
  refine j_aload_n 0 (pc' := 1) hC dX1_does_0 rfl rfl ?_
  refine j_iload_n 2 (pc' := 2) hC dX1_does_1 rfl rfl ?_
  obtain ⟨r1, hc2, h⟩ := jb1_s h
  refine j_callVl [.int a2] (pc' := 5) hC dX1_does_2 rfl (t_X1_doneBy _ _ hc2) gx65 vcl1 cv_X1_104 ⟨⟨Nat.le_of_ble_eq_true rfl, Nat.le_of_ble_eq_true rfl⟩, rfl, Nat.le_of_ble_eq_true rfl⟩ rfl rfl ?_
  refine j_gets 4 (pc' := 8) hC dX1_does_5 rfl (by decide) (by decide +kernel) ?_
  refine j_iload_n 1 (pc' := 9) hC dX1_does_8 rfl rfl ?_
  obtain ⟨g3, h⟩ := jg_s h
  refine j_sldl 4 (pc' := 10) hC dX1_does_9 rfl (by decide) g3 ?_
  refine j_land (pc' := 11) hC dX1_does_10 rfl ?_
  refine j_lconst (v := 0) (pc' := 12) hC dX1_does_11 rfl rfl ?_
  refine j_lcmp (pc' := 13) hC dX1_does_12 rfl ?_
  refine j_if_eq (tgt := 20) (pc' := 16) hC dX1_does_13 (by decide) rfl (fun c4 => ?_) (fun c4 => ?_)
  · have h := jit_t c4 h
    refine j_iconst (v := 0) (pc' := 21) hC dX1_does_20 rfl rfl ?_
    have q8 := jinj1 h
    subst q8
    exact j_zret hC dX1_does_21 (by decide)
  · have h := jit_f c4 h
    refine j_iconst (v := 1) (pc' := 17) hC dX1_does_16 rfl rfl ?_
    refine j_goto (tgt := 21) (pc' := 0) hC dX1_does_17 (by decide) ?_
    have q8 := jinj1 h
    subst q8
    exact j_zret hC dX1_does_21 (by decide)
theorem lp_X1_fewestHoursTo_L5_b {Γ : jG} (hC : jOK Γ cX1_fewestHoursTo 5 RX1 (some .int) { frames := 2, cells := 0, slots := 0, locals := 46 }) {Q : State → Prop} (rec : Int32 → Int32 → Int32 → jM → Option (Int32 × Int32)) (ih : ∀ (x1 : Int32) (x2 : Int32) (x3 : Int32) (M : jM) (e2 : Int32) (e3 : Int32), rec x1 x2 x3 M = some (e2, e3) → jJ Γ GX RX 51 [(0, .ref (jad Γ 65)), (1, .int x1), (2, .int e2), (3, .int e3)] [] M Q → jJ Γ GX RX 5 [(0, .ref (jad Γ 65)), (1, .int x1), (2, .int x2), (3, .int x3)] [] M Q) (x1 : Int32) (x2 : Int32) (x3 : Int32) (M : jM) (e2 : Int32) (e3 : Int32) (h : f_X1_fewestHoursTo_L5_b rec x1 x2 x3 M = some (e2, e3)) (hK : jJ Γ GX RX 51 [(0, .ref (jad Γ 65)), (1, .int x1), (2, .int e2), (3, .int e3)] [] M Q) : jJ Γ GX RX 5 [(0, .ref (jad Γ 65)), (1, .int x1), (2, .int x2), (3, .int x3)] [] M Q := by
  unfold f_X1_fewestHoursTo_L5_b at h
  refine j_iload_n 3 (pc' := 6) hC dX1_fewestHoursTo_5 rfl rfl ?_
  refine j_sipush (v := 128) (pc' := 9) hC dX1_fewestHoursTo_6 rfl rfl ?_
  refine j_icmp_ge (tgt := 51) (pc' := 12) hC dX1_fewestHoursTo_9 (by decide) rfl (fun c1 => ?_) (fun c1 => ?_)
  · have h := jit_t c1 h
    obtain ⟨q0, q1⟩ := jinj2 h
    subst q0
    subst q1
    refine j_sub [0, 1, 2, 3] rfl ?_
    exact hK
  · have h := jit_f c1 h
    refine j_aload_n 0 (pc' := 13) hC dX1_fewestHoursTo_12 rfl rfl ?_
    refine j_iload_n 1 (pc' := 14) hC dX1_fewestHoursTo_13 rfl rfl ?_
    refine j_iload_n 3 (pc' := 15) hC dX1_fewestHoursTo_14 rfl rfl ?_
    obtain ⟨r2, hc3, h⟩ := jb1_s h
    refine j_callVi [.int x1, .int x3] (pc' := 18) hC dX1_fewestHoursTo_15 rfl (t_X1_does _ _ hc3) gx65 vcl1 cv_X1_123 ⟨⟨Nat.le_of_ble_eq_true rfl, Nat.le_of_ble_eq_true rfl⟩, rfl, Nat.le_of_ble_eq_true rfl⟩ rfl rfl ?_
    obtain ⟨v12, hm14, h⟩ := jb1_s h
    have K13 : jJ Γ GX RX 45 [(0, .ref (jad Γ 65)), (1, .int x1), (2, .int v12), (3, .int x3)] [] M Q := by
      obtain ⟨v23, ev23, h⟩ := jlet_s h
      refine j_iinc' 3 (c := 1) (pc' := 48) hC dX1_fewestHoursTo_45 rfl rfl rfl ev23 (by decide) rfl ?_
      refine j_goto (tgt := 5) (pc' := 0) hC dX1_fewestHoursTo_48 (by decide) ?_
      refine j_sub [1, 2, 3, 0] rfl ?_
      exact ih _ _ _ _ _ _ h hK
    refine j_if_eq (tgt := 45) (pc' := 21) hC dX1_fewestHoursTo_18 (by decide) rfl (fun c15 => ?_) (fun c15 => ?_)
    · have hm14 := jit_t c15 hm14
      have q8 := jinj1 hm14
      subst q8
      exact j_sub [0, 1, 2, 3] rfl K13
    · have hm14 := jit_f c15 hm14
      refine j_iload_n 3 (pc' := 22) hC dX1_fewestHoursTo_21 rfl rfl ?_
      obtain ⟨r16, hc17, hm14⟩ := jb1_s hm14
      refine j_callSi [.int x3] (pc' := 25) hC dX1_fewestHoursTo_22 rfl (t_J6_bitCount_0f7a4 _ _ hc17) cs_X1_118 ⟨⟨Nat.le_of_ble_eq_true rfl, Nat.le_of_ble_eq_true rfl⟩, rfl, Nat.le_of_ble_eq_true rfl⟩ rfl rfl ?_
      refine j_istore (pc' := 27) hC dX1_fewestHoursTo_25 rfl rfl (by decide) rfl ?_
      refine j_iload_n 3 (pc' := 28) hC dX1_fewestHoursTo_27 rfl rfl ?_
      refine j_bipush (v := -9) (pc' := 30) hC dX1_fewestHoursTo_28 rfl rfl ?_
      obtain ⟨v19, hm21, hm14⟩ := jlet_s hm14
      have K20 : jJ Γ GX RX 44 [(0, .ref (jad Γ 65)), (1, .int x1), (2, .int x2), (3, .int x3), (4, .int r16)] [.int v19] M Q := by
        refine j_istore_n (pc' := 45) hC dX1_fewestHoursTo_44 rfl rfl (by decide) rfl ?_
        have q8 := jinj1 hm14
        subst q8
        exact j_sub [1, 2, 0, 3] rfl K13
      refine j_icmp_ne (tgt := 38) (pc' := 33) hC dX1_fewestHoursTo_30 (by decide) rfl (fun c22 => ?_) (fun c22 => ?_)
      · have hm21 := jit_f c22 hm21
        refine j_iload_n 3 (pc' := 39) hC dX1_fewestHoursTo_38 rfl rfl ?_
        refine j_iload 0 (pc' := 41) hC dX1_fewestHoursTo_39 rfl rfl ?_
        refine j_mmin (pc' := 44) hC dX1_fewestHoursTo_41 rfl cm_X1_40 ⟨Nat.le_of_ble_eq_true rfl, Nat.le_of_ble_eq_true rfl⟩ ?_
        subst hm21
        exact j_sub [1, 2, 3, 4, 0] rfl K20
      · have hm21 := jit_t c22 hm21
        refine j_iload 0 (pc' := 35) hC dX1_fewestHoursTo_33 rfl rfl ?_
        refine j_goto (tgt := 44) (pc' := 0) hC dX1_fewestHoursTo_35 (by decide) ?_
        subst hm21
        exact j_sub [1, 2, 3, 4, 0] rfl K20
theorem lp_X1_fewestHoursTo_L5 {Γ : jG} (hC : jOK Γ cX1_fewestHoursTo 5 RX1 (some .int) { frames := 2, cells := 0, slots := 0, locals := 46 }) {Q : State → Prop} : ∀ (n : Nat) (x1 : Int32) (x2 : Int32) (x3 : Int32) (M : jM) (e2 : Int32) (e3 : Int32), f_X1_fewestHoursTo_L5 n x1 x2 x3 M = some (e2, e3) → jJ Γ GX RX 51 [(0, .ref (jad Γ 65)), (1, .int x1), (2, .int e2), (3, .int e3)] [] M Q → jJ Γ GX RX 5 [(0, .ref (jad Γ 65)), (1, .int x1), (2, .int x2), (3, .int x3)] [] M Q := by
  intro n
  induction n with
  | zero =>
    intro x1 x2 x3 M e2 e3 h hK
    exact jno h
  | succ n ih =>
    intro x1 x2 x3 M e2 e3 h hK
    exact lp_X1_fewestHoursTo_L5_b hC (f_X1_fewestHoursTo_L5 n) ih x1 x2 x3 M e2 e3 h hK
theorem t_X1_fewestHoursTo (l : Launch) (E : jE) {a1 : Int32} {M : jM} {r : Int32} (h : f_X1_fewestHoursTo a1 M = some r) : jCi l yX1_fewestHoursTo cX1_fewestHoursTo 5 (some .int) 2 46 E RX GX (fun a _ => [.ref (a 65), .int a1]) M r M := by
  refine jCi_of (own := RX1) (by decide) rfl (fun _ _ => Nat.le_of_ble_eq_true rfl) ?_
  intro Γ hC
  show jJ Γ GX RX 0 [(0, .ref (jad Γ 65)), (1, .int a1)] [] M (jQi Γ RX GX r M)
  unfold f_X1_fewestHoursTo at h
  refine j_bipush (v := -9) (pc' := 2) hC dX1_fewestHoursTo_0 rfl rfl ?_
  refine j_istore_n (pc' := 3) hC dX1_fewestHoursTo_2 rfl rfl (by decide) rfl ?_
  refine j_iconst (v := 0) (pc' := 4) hC dX1_fewestHoursTo_3 rfl rfl ?_
  refine j_istore_n (pc' := 5) hC dX1_fewestHoursTo_4 rfl rfl (by decide) rfl ?_
  refine j_sub [2, 3, 1, 0] rfl ?_
  obtain ⟨v1, v2, hm3, h⟩ := jb2_s h
  refine lp_X1_fewestHoursTo_L5 hC  jfu a1 (-9 : Int32) (0 : Int32) M v1 v2 hm3 ?_
  refine j_iload_n 2 (pc' := 52) hC dX1_fewestHoursTo_51 rfl rfl ?_
  have q8 := jinj1 h
  subst q8
  exact j_iret hC dX1_fewestHoursTo_52
theorem t_X5_fewest (l : Launch) (E : jE) {a1 : Int32} {M : jM} {r : Int32} {M' : jM} (h : f_X5_fewest a1 M = some (r, M')) : jCi l yX5_fewest cX5_fewest 2 (some .int) 4 98 E RX GX (fun a _ => [.ref (a 0), .int a1]) M r M' := by
  refine jCi_of (own := RX5) (by decide) rfl (fun _ _ => Nat.le_of_ble_eq_true rfl) ?_
  intro Γ hC
  show jJ Γ GX RX 0 [(0, .ref (jad Γ 0)), (1, .int a1)] [] M (jQi Γ RX GX r M')
  unfold f_X5_fewest at h
  refine j_aload_n 0 (pc' := 1) hC dX5_fewest_0 rfl rfl ?_
  refine j_getr' (o2 := 29) (pc' := 4) hC dX5_fewest_1 rfl fi_X5_31 gx0 rfl ?_
  refine j_iload_n 1 (pc' := 5) hC dX5_fewest_4 rfl rfl ?_
  obtain ⟨r1, hc2, h⟩ := jb1_s h
  refine j_callVi [.int a1] (pc' := 8) hC dX5_fewest_5 rfl (t_X2_hasDeed _ _ hc2) gx29 vcl2 cv_X5_143 ⟨⟨Nat.le_of_ble_eq_true rfl, Nat.le_of_ble_eq_true rfl⟩, rfl, Nat.le_of_ble_eq_true rfl⟩ rfl rfl ?_
  refine j_if_ne (tgt := 13) (pc' := 11) hC dX5_fewest_8 (by decide) rfl (fun c3 => ?_) (fun c3 => ?_)
  · have h := jit_f c3 h
    refine j_aload_n 0 (pc' := 14) hC dX5_fewest_13 rfl rfl ?_
    refine j_getr' (o2 := 65) (pc' := 17) hC dX5_fewest_14 rfl fi_X5_55 gx0 rfl ?_
    refine j_aload_n 0 (pc' := 18) hC dX5_fewest_17 rfl rfl ?_
    refine j_getr' (o2 := 39) (pc' := 21) hC dX5_fewest_18 rfl fi_X5_40 gx0 rfl ?_
    refine j_aload_n 0 (pc' := 22) hC dX5_fewest_21 rfl rfl ?_
    refine j_getr' (o2 := 39) (pc' := 25) hC dX5_fewest_22 rfl fi_X5_40 gx0 rfl ?_
    obtain ⟨r4, hc5, h⟩ := jb1_s h
    refine j_callVi [] (pc' := 28) hC dX5_fewest_25 rfl (t_X0_shelfBits _ _ hc5) gx39 vcl0 cv_X5_209 ⟨⟨Nat.le_of_ble_eq_true rfl, Nat.le_of_ble_eq_true rfl⟩, rfl, Nat.le_of_ble_eq_true rfl⟩ rfl rfl ?_
    obtain ⟨M6, hc7, h⟩ := jb1_s h
    refine j_callVv [.ref (jad Γ 39), .int r4] (pc' := 31) hC dX5_fewest_28 rfl (t_X1_explore _ _ hc7) gx65 vcl1 cv_X5_254 ⟨⟨Nat.le_of_ble_eq_true rfl, Nat.le_of_ble_eq_true rfl⟩, rfl, Nat.le_of_ble_eq_true rfl⟩ rfl rfl ?_
    refine j_aload_n 0 (pc' := 32) hC dX5_fewest_31 rfl rfl ?_
    refine j_getr' (o2 := 65) (pc' := 35) hC dX5_fewest_32 rfl fi_X5_55 gx0 rfl ?_
    refine j_iload_n 1 (pc' := 36) hC dX5_fewest_35 rfl rfl ?_
    obtain ⟨r8, hc9, h⟩ := jb1_s h
    refine j_callVi [.int a1] (pc' := 39) hC dX5_fewest_36 rfl (t_X1_fewestHoursTo _ _ hc9) gx65 vcl1 cv_X5_263 ⟨⟨Nat.le_of_ble_eq_true rfl, Nat.le_of_ble_eq_true rfl⟩, rfl, Nat.le_of_ble_eq_true rfl⟩ rfl rfl ?_
    obtain ⟨q0, q1⟩ := jinj2 h
    subst q0
    subst q1
    exact j_iret hC dX5_fewest_39
  · have h := jit_t c3 h
    refine j_iconst (v := -1) (pc' := 12) hC dX5_fewest_11 rfl rfl ?_
    obtain ⟨q0, q1⟩ := jinj2 h
    subst q0
    subst q1
    exact j_iret hC dX5_fewest_12
theorem lp_X1_winningBy_L13_b {Γ : jG} (hC : jOK Γ cX1_winningBy 9 RX1 (some .long) { frames := 0, cells := 0, slots := 0, locals := 0 }) {Q : State → Prop} (x3 : Int32) (rec : Int32 → Int32 → Int64 → Int32 → Int32 → jM → Option (Int64 × Int32 × Int32)) (ih : ∀ (x1 : Int32) (x2 : Int32) (x4 : Int64) (x6 : Int32) (x7 : Int32) (M : jM) (e4 : Int64) (e6 : Int32) (e7 : Int32), rec x1 x2 x4 x6 x7 M = some (e4, e6, e7) → jJ Γ GX RX 64 [(0, .ref (jad Γ 65)), (1, .int x1), (2, .int x2), (3, .int x3), (4, .long e4), (6, .int e6), (7, .int e7)] [] M Q → jJ Γ GX RX 13 [(0, .ref (jad Γ 65)), (1, .int x1), (2, .int x2), (3, .int x3), (4, .long x4), (6, .int x6), (7, .int x7)] [] M Q) (x1 : Int32) (x2 : Int32) (x4 : Int64) (x6 : Int32) (x7 : Int32) (M : jM) (e4 : Int64) (e6 : Int32) (e7 : Int32) (h : f_X1_winningBy_L13_b rec x1 x2 x4 x6 x7 M = some (e4, e6, e7)) (hK : jJ Γ GX RX 64 [(0, .ref (jad Γ 65)), (1, .int x1), (2, .int x2), (3, .int x3), (4, .long e4), (6, .int e6), (7, .int e7)] [] M Q) : jJ Γ GX RX 13 [(0, .ref (jad Γ 65)), (1, .int x1), (2, .int x2), (3, .int x3), (4, .long x4), (6, .int x6), (7, .int x7)] [] M Q := by
  unfold f_X1_winningBy_L13_b at h
  refine j_iload 6 (pc' := 15) hC dX1_winningBy_13 rfl rfl ?_
  refine j_bipush (v := 7) (pc' := 17) hC dX1_winningBy_15 rfl rfl ?_
  refine j_icmp_ge (tgt := 64) (pc' := 20) hC dX1_winningBy_17 (by decide) rfl (fun c1 => ?_) (fun c1 => ?_)
  · have h := jit_t c1 h
    obtain ⟨q0, q1, q2⟩ := jinj3 h
    subst q0
    subst q1
    subst q2
    refine j_sub [0, 1, 2, 3, 4, 5, 6] rfl ?_
    exact hK
  · have h := jit_f c1 h
    refine j_iload 5 (pc' := 22) hC dX1_winningBy_20 rfl rfl ?_
    refine j_if_eq (tgt := 64) (pc' := 25) hC dX1_winningBy_22 (by decide) rfl (fun c2 => ?_) (fun c2 => ?_)
    · have h := jit_t c2 h
      obtain ⟨q0, q1, q2⟩ := jinj3 h
      subst q0
      subst q1
      subst q2
      refine j_sub [0, 1, 2, 3, 4, 5, 6] rfl ?_
      exact hK
    · have h := jit_f c2 h
      refine j_iload 5 (pc' := 27) hC dX1_winningBy_25 rfl rfl ?_
      refine j_iload 5 (pc' := 29) hC dX1_winningBy_27 rfl rfl ?_
      refine j_ineg (pc' := 30) hC dX1_winningBy_29 rfl ?_
      refine j_iand (pc' := 31) hC dX1_winningBy_30 rfl ?_
      obtain ⟨v3, ev3, h⟩ := jlet_s h
      refine j_istore (pc' := 33) hC dX1_winningBy_31 rfl ev3 (by decide) rfl ?_
      refine j_iload 6 (pc' := 35) hC dX1_winningBy_33 rfl rfl ?_
      refine j_iload 0 (pc' := 37) hC dX1_winningBy_35 rfl rfl ?_
      refine j_isub (pc' := 38) hC dX1_winningBy_37 rfl ?_
      obtain ⟨v4, ev4, h⟩ := jlet_s h
      refine j_istore (pc' := 40) hC dX1_winningBy_38 rfl ev4 (by decide) rfl ?_
      refine j_lload 6 (pc' := 42) hC dX1_winningBy_40 rfl rfl ?_
      refine j_aload_n 2 (pc' := 43) hC dX1_winningBy_42 rfl rfl ?_
      refine j_getr' (o2 := 67) (pc' := 46) hC dX1_winningBy_43 rfl fi_X1_15 gx65 rfl ?_
      refine j_iload_n 3 (pc' := 47) hC dX1_winningBy_46 rfl rfl ?_
      refine j_iload 1 (pc' := 49) hC dX1_winningBy_47 rfl rfl ?_
      refine j_ior (pc' := 50) hC dX1_winningBy_49 rfl ?_
      refine j_iconst (v := 3) (pc' := 51) hC dX1_winningBy_50 rfl rfl ?_
      refine j_imul (pc' := 52) hC dX1_winningBy_51 rfl ?_
      refine j_iload_n 4 (pc' := 53) hC dX1_winningBy_52 rfl rfl ?_
      refine j_iadd (pc' := 54) hC dX1_winningBy_53 rfl ?_
      obtain ⟨g5, h⟩ := jg_s h
      refine j_lald (pc' := 55) hC dX1_winningBy_54 rfl gx67 g5 ?_
      refine j_lor (pc' := 56) hC dX1_winningBy_55 rfl ?_
      obtain ⟨v6, ev6, h⟩ := jlet_s h
      refine j_lstore (pc' := 58) hC dX1_winningBy_56 rfl ev6 (by decide) rfl ?_
      obtain ⟨v7, ev7, h⟩ := jlet_s h
      refine j_iinc' 7 (c := 1) (pc' := 61) hC dX1_winningBy_58 rfl rfl rfl ev7 (by decide) rfl ?_
      refine j_goto (tgt := 13) (pc' := 0) hC dX1_winningBy_61 (by decide) ?_
      refine j_sub [4, 5, 6, 7, 1, 2, 0] rfl ?_
      exact ih _ _ _ _ _ _ _ _ _ h hK
theorem lp_X1_winningBy_L13 {Γ : jG} (hC : jOK Γ cX1_winningBy 9 RX1 (some .long) { frames := 0, cells := 0, slots := 0, locals := 0 }) {Q : State → Prop} (x3 : Int32) : ∀ (n : Nat) (x1 : Int32) (x2 : Int32) (x4 : Int64) (x6 : Int32) (x7 : Int32) (M : jM) (e4 : Int64) (e6 : Int32) (e7 : Int32), f_X1_winningBy_L13 n x1 x2 x4 x6 x7 M = some (e4, e6, e7) → jJ Γ GX RX 64 [(0, .ref (jad Γ 65)), (1, .int x1), (2, .int x2), (3, .int x3), (4, .long e4), (6, .int e6), (7, .int e7)] [] M Q → jJ Γ GX RX 13 [(0, .ref (jad Γ 65)), (1, .int x1), (2, .int x2), (3, .int x3), (4, .long x4), (6, .int x6), (7, .int x7)] [] M Q := by
  intro n
  induction n with
  | zero =>
    intro x1 x2 x4 x6 x7 M e4 e6 e7 h hK
    exact jno h
  | succ n ih =>
    intro x1 x2 x4 x6 x7 M e4 e6 e7 h hK
    exact lp_X1_winningBy_L13_b hC x3 (f_X1_winningBy_L13 n) ih x1 x2 x4 x6 x7 M e4 e6 e7 h hK
theorem t_X1_winningBy (l : Launch) (E : jE) {a1 : Int32} {a2 : Int32} {a3 : Int32} {M : jM} {r : Int64} (h : f_X1_winningBy a1 a2 a3 M = some r) : jCl l yX1_winningBy cX1_winningBy 9 (some .long) 0 0 E RX GX (fun a _ => [.ref (a 65), .int a1, .int a2, .int a3]) M r M := by
  refine jCl_of (own := RX1) (by decide) rfl (fun _ _ => Nat.le_of_ble_eq_true rfl) ?_
  intro Γ hC
  show jJ Γ GX RX 0 [(0, .ref (jad Γ 65)), (1, .int a1), (2, .int a2), (3, .int a3)] [] M (jQl Γ RX GX r M)
  unfold f_X1_winningBy at h
  refine j_lconst (v := 0) (pc' := 1) hC dX1_winningBy_0 rfl rfl ?_
  refine j_lstore (pc' := 3) hC dX1_winningBy_1 rfl rfl (by decide) rfl ?_
  refine j_iload_n 4 (pc' := 4) hC dX1_winningBy_3 rfl rfl ?_
  refine j_iload_n 2 (pc' := 5) hC dX1_winningBy_4 rfl rfl ?_
  refine j_iconst (v := -1) (pc' := 6) hC dX1_winningBy_5 rfl rfl ?_
  refine j_ixor (pc' := 7) hC dX1_winningBy_6 rfl ?_
  refine j_iand (pc' := 8) hC dX1_winningBy_7 rfl ?_
  obtain ⟨v1, ev1, h⟩ := jlet_s h
  refine j_istore (pc' := 10) hC dX1_winningBy_8 rfl ev1 (by decide) rfl ?_
  refine j_iconst (v := 0) (pc' := 11) hC dX1_winningBy_10 rfl rfl ?_
  refine j_istore (pc' := 13) hC dX1_winningBy_11 rfl rfl (by decide) rfl ?_
  refine j_sub [3, 4, 5, 6, 2, 1, 0] rfl ?_
  obtain ⟨v2, v3, v4, hm5, h⟩ := jb3_s h
  refine lp_X1_winningBy_L13 hC a3 jfu a1 a2 (0 : Int64) v1 (0 : Int32) M v2 v3 v4 hm5 ?_
  refine j_lload 4 (pc' := 66) hC dX1_winningBy_64 rfl rfl ?_
  have q8 := jinj1 h
  subst q8
  exact j_lret hC dX1_winningBy_66
theorem lp_X1_winningAhead_L20_b {Γ : jG} (hC : jOK Γ cX1_winningAhead 8 RX1 (some .long) { frames := 2, cells := 0, slots := 0, locals := 47 }) {Q : State → Prop} (rec : Int32 → Int32 → Int64 → Int32 → jM → Option (Int64 × Int32)) (ih : ∀ (x1 : Int32) (x2 : Int32) (x3 : Int64) (x5 : Int32) (M : jM) (e3 : Int64) (e5 : Int32), rec x1 x2 x3 x5 M = some (e3, e5) → jJ Γ GX RX 102 [(0, .ref (jad Γ 65)), (1, .int x1), (2, .int x2), (3, .long e3), (5, .int e5)] [] M Q → jJ Γ GX RX 20 [(0, .ref (jad Γ 65)), (1, .int x1), (2, .int x2), (3, .long x3), (5, .int x5)] [] M Q) (x1 : Int32) (x2 : Int32) (x3 : Int64) (x5 : Int32) (M : jM) (e3 : Int64) (e5 : Int32) (h : f_X1_winningAhead_L20_b rec x1 x2 x3 x5 M = some (e3, e5)) (hK : jJ Γ GX RX 102 [(0, .ref (jad Γ 65)), (1, .int x1), (2, .int x2), (3, .long e3), (5, .int e5)] [] M Q) : jJ Γ GX RX 20 [(0, .ref (jad Γ 65)), (1, .int x1), (2, .int x2), (3, .long x3), (5, .int x5)] [] M Q := by
  unfold f_X1_winningAhead_L20_b at h
  refine j_iload 4 (pc' := 22) hC dX1_winningAhead_20 rfl rfl ?_
  refine j_aload_n 0 (pc' := 23) hC dX1_winningAhead_22 rfl rfl ?_
  refine j_getr' (o2 := 29) (pc' := 26) hC dX1_winningAhead_23 rfl fi_X1_31 gx65 rfl ?_
  refine j_geti' (pc' := 29) hC dX1_winningAhead_26 rfl fi_X1_91 gx29 ?_
  refine j_icmp_ge (tgt := 102) (pc' := 32) hC dX1_winningAhead_29 (by decide) rfl (fun c1 => ?_) (fun c1 => ?_)
  · have h := jit_t c1 h
    obtain ⟨q0, q1⟩ := jinj2 h
    subst q0
    subst q1
    refine j_sub [0, 1, 2, 3, 4] rfl ?_
    exact hK
  · have h := jit_f c1 h
    refine j_aload_n 0 (pc' := 33) hC dX1_winningAhead_32 rfl rfl ?_
    refine j_getr' (o2 := 29) (pc' := 36) hC dX1_winningAhead_33 rfl fi_X1_31 gx65 rfl ?_
    refine j_iload 4 (pc' := 38) hC dX1_winningAhead_36 rfl rfl ?_
    refine j_iload_n 2 (pc' := 39) hC dX1_winningAhead_38 rfl rfl ?_
    obtain ⟨r2, hc3, h⟩ := jb1_s h
    refine j_callVi [.int x5, .int x2] (pc' := 42) hC dX1_winningAhead_39 rfl (t_X2_isHungry _ _ hc3) gx29 vcl2 cv_X1_97 ⟨⟨Nat.le_of_ble_eq_true rfl, Nat.le_of_ble_eq_true rfl⟩, rfl, Nat.le_of_ble_eq_true rfl⟩ rfl rfl ?_
    obtain ⟨v14, hm16, h⟩ := jb1_s h
    have K15 : jJ Γ GX RX 96 [(0, .ref (jad Γ 65)), (1, .int x1), (2, .int x2), (3, .long v14), (5, .int x5)] [] M Q := by
      obtain ⟨v27, ev27, h⟩ := jlet_s h
      refine j_iinc' 4 (c := 1) (pc' := 99) hC dX1_winningAhead_96 rfl rfl rfl ev27 (by decide) rfl ?_
      refine j_goto (tgt := 20) (pc' := 0) hC dX1_winningAhead_99 (by decide) ?_
      refine j_sub [1, 2, 3, 4, 0] rfl ?_
      exact ih _ _ _ _ _ _ _ h hK
    refine j_if_eq (tgt := 96) (pc' := 45) hC dX1_winningAhead_42 (by decide) rfl (fun c17 => ?_) (fun c17 => ?_)
    · have hm16 := jit_t c17 hm16
      have q8 := jinj1 hm16
      subst q8
      exact j_sub [0, 1, 2, 3, 4] rfl K15
    · have hm16 := jit_f c17 hm16
      refine j_aload_n 0 (pc' := 46) hC dX1_winningAhead_45 rfl rfl ?_
      refine j_iload_n 1 (pc' := 47) hC dX1_winningAhead_46 rfl rfl ?_
      refine j_aload_n 0 (pc' := 48) hC dX1_winningAhead_47 rfl rfl ?_
      refine j_iload_n 2 (pc' := 49) hC dX1_winningAhead_48 rfl rfl ?_
      refine j_iload 4 (pc' := 51) hC dX1_winningAhead_49 rfl rfl ?_
      obtain ⟨r18, hc19, hm16⟩ := jb1_s hm16
      refine j_callVi [.int x2, .int x5] (pc' := 54) hC dX1_winningAhead_51 rfl (t_X1_gapBehind _ _ hc19) gx65 vcl1 cv_X1_64 ⟨⟨Nat.le_of_ble_eq_true rfl, Nat.le_of_ble_eq_true rfl⟩, rfl, Nat.le_of_ble_eq_true rfl⟩ rfl rfl ?_
      refine j_aload_n 0 (pc' := 55) hC dX1_winningAhead_54 rfl rfl ?_
      refine j_geti' (pc' := 58) hC dX1_winningAhead_55 rfl fi_X1_18 gx65 ?_
      refine j_aload_n 0 (pc' := 59) hC dX1_winningAhead_58 rfl rfl ?_
      refine j_getr' (o2 := 29) (pc' := 62) hC dX1_winningAhead_59 rfl fi_X1_31 gx65 rfl ?_
      refine j_getr' (o2 := 38) (pc' := 65) hC dX1_winningAhead_62 rfl fi_X1_100 gx29 rfl ?_
      refine j_iload 4 (pc' := 67) hC dX1_winningAhead_65 rfl rfl ?_
      obtain ⟨g20, hm16⟩ := jg_s hm16
      refine j_iald (pc' := 68) hC dX1_winningAhead_67 rfl gx38 g20 ?_
      refine j_iand (pc' := 69) hC dX1_winningAhead_68 rfl ?_
      obtain ⟨r21, hc22, hm16⟩ := jb1_s hm16
      refine j_callVl [.int x1, .int r18, .int ((gi M 65 3) &&& (gi M 38 x5.toNatClampNeg))] (pc' := 72) hC dX1_winningAhead_69 rfl (t_X1_winningBy _ _ hc22) gx65 vcl1 cv_X1_143 ⟨⟨Nat.le_of_ble_eq_true rfl, Nat.le_of_ble_eq_true rfl⟩, rfl, Nat.le_of_ble_eq_true rfl⟩ rfl rfl ?_
      refine j_lstore (pc' := 74) hC dX1_winningAhead_72 rfl rfl (by decide) rfl ?_
      refine j_lload_n 4 (pc' := 75) hC dX1_winningAhead_74 rfl rfl ?_
      refine j_lload 0 (pc' := 77) hC dX1_winningAhead_75 rfl rfl ?_
      refine j_iload 5 (pc' := 79) hC dX1_winningAhead_77 rfl rfl ?_
      obtain ⟨r23, hc24, hm16⟩ := jb1_s hm16
      refine j_callSi [.int x5] (pc' := 82) hC dX1_winningAhead_79 rfl (t_X1_deedBit _ _ hc24) cs_X1_67 ⟨⟨Nat.le_of_ble_eq_true rfl, Nat.le_of_ble_eq_true rfl⟩, rfl, Nat.le_of_ble_eq_true rfl⟩ rfl rfl ?_
      refine j_lushr (pc' := 83) hC dX1_winningAhead_82 rfl ?_
      refine j_aload_n 1 (pc' := 84) hC dX1_winningAhead_83 rfl rfl ?_
      refine j_getr' (o2 := 29) (pc' := 87) hC dX1_winningAhead_84 rfl fi_X1_31 gx65 rfl ?_
      refine j_getr' (o2 := 37) (pc' := 90) hC dX1_winningAhead_87 rfl fi_X1_94 gx29 rfl ?_
      refine j_iload 5 (pc' := 92) hC dX1_winningAhead_90 rfl rfl ?_
      obtain ⟨g25, hm16⟩ := jg_s hm16
      refine j_lald (pc' := 93) hC dX1_winningAhead_92 rfl gx37 g25 ?_
      refine j_land (pc' := 94) hC dX1_winningAhead_93 rfl ?_
      refine j_lor (pc' := 95) hC dX1_winningAhead_94 rfl ?_
      obtain ⟨v26, ev26, hm16⟩ := jlet_s hm16
      refine j_lstore_n (pc' := 96) hC dX1_winningAhead_95 rfl ev26 (by decide) rfl ?_
      have q8 := jinj1 hm16
      subst q8
      exact j_sub [2, 3, 4, 0, 5] rfl K15
theorem lp_X1_winningAhead_L20 {Γ : jG} (hC : jOK Γ cX1_winningAhead 8 RX1 (some .long) { frames := 2, cells := 0, slots := 0, locals := 47 }) {Q : State → Prop} : ∀ (n : Nat) (x1 : Int32) (x2 : Int32) (x3 : Int64) (x5 : Int32) (M : jM) (e3 : Int64) (e5 : Int32), f_X1_winningAhead_L20 n x1 x2 x3 x5 M = some (e3, e5) → jJ Γ GX RX 102 [(0, .ref (jad Γ 65)), (1, .int x1), (2, .int x2), (3, .long e3), (5, .int e5)] [] M Q → jJ Γ GX RX 20 [(0, .ref (jad Γ 65)), (1, .int x1), (2, .int x2), (3, .long x3), (5, .int x5)] [] M Q := by
  intro n
  induction n with
  | zero =>
    intro x1 x2 x3 x5 M e3 e5 h hK
    exact jno h
  | succ n ih =>
    intro x1 x2 x3 x5 M e3 e5 h hK
    exact lp_X1_winningAhead_L20_b hC (f_X1_winningAhead_L20 n) ih x1 x2 x3 x5 M e3 e5 h hK
theorem t_X1_winningAhead (l : Launch) (E : jE) {a1 : Int32} {a2 : Int32} {M : jM} {r : Int64} (h : f_X1_winningAhead a1 a2 M = some r) : jCl l yX1_winningAhead cX1_winningAhead 8 (some .long) 2 47 E RX GX (fun a _ => [.ref (a 65), .int a1, .int a2]) M r M := by
  refine jCl_of (own := RX1) (by decide) rfl (fun _ _ => Nat.le_of_ble_eq_true rfl) ?_
  intro Γ hC
  show jJ Γ GX RX 0 [(0, .ref (jad Γ 65)), (1, .int a1), (2, .int a2)] [] M (jQl Γ RX GX r M)
  unfold f_X1_winningAhead at h
  refine j_aload_n 0 (pc' := 1) hC dX1_winningAhead_0 rfl rfl ?_
  refine j_iload_n 1 (pc' := 2) hC dX1_winningAhead_1 rfl rfl ?_
  refine j_aload_n 0 (pc' := 3) hC dX1_winningAhead_2 rfl rfl ?_
  refine j_iload_n 2 (pc' := 4) hC dX1_winningAhead_3 rfl rfl ?_
  refine j_bipush (v := -9) (pc' := 6) hC dX1_winningAhead_4 rfl rfl ?_
  obtain ⟨r1, hc2, h⟩ := jb1_s h
  refine j_callVi [.int a2, .int (-9 : Int32)] (pc' := 9) hC dX1_winningAhead_6 rfl (t_X1_gapBehind _ _ hc2) gx65 vcl1 cv_X1_64 ⟨⟨Nat.le_of_ble_eq_true rfl, Nat.le_of_ble_eq_true rfl⟩, rfl, Nat.le_of_ble_eq_true rfl⟩ rfl rfl ?_
  refine j_aload_n 0 (pc' := 10) hC dX1_winningAhead_9 rfl rfl ?_
  refine j_geti' (pc' := 13) hC dX1_winningAhead_10 rfl fi_X1_18 gx65 ?_
  obtain ⟨r3, hc4, h⟩ := jb1_s h
  refine j_callVl [.int a1, .int r1, .int (gi M 65 3)] (pc' := 16) hC dX1_winningAhead_13 rfl (t_X1_winningBy _ _ hc4) gx65 vcl1 cv_X1_143 ⟨⟨Nat.le_of_ble_eq_true rfl, Nat.le_of_ble_eq_true rfl⟩, rfl, Nat.le_of_ble_eq_true rfl⟩ rfl rfl ?_
  refine j_lstore_n (pc' := 17) hC dX1_winningAhead_16 rfl rfl (by decide) rfl ?_
  refine j_iconst (v := 0) (pc' := 18) hC dX1_winningAhead_17 rfl rfl ?_
  refine j_istore (pc' := 20) hC dX1_winningAhead_18 rfl rfl (by decide) rfl ?_
  refine j_sub [2, 3, 4, 1, 0] rfl ?_
  obtain ⟨v5, v6, hm7, h⟩ := jb2_s h
  refine lp_X1_winningAhead_L20 hC  jfu a1 a2 r3 (0 : Int32) M v5 v6 hm7 ?_
  refine j_lload_n 3 (pc' := 103) hC dX1_winningAhead_102 rfl rfl ?_
  have q8 := jinj1 h
  subst q8
  exact j_lret hC dX1_winningAhead_103
theorem lp_X1_findWinning_L16_b {Γ : jG} (hC : jOK Γ cX1_findWinning 7 RX1 (none) { frames := 3, cells := 0, slots := 0, locals := 74 }) {Q : State → Prop} (rec : Int32 → Int32 → Int32 → Int32 → Int32 → jM → Option (Int32 × jM)) (ih : ∀ (x1 : Int32) (x2 : Int32) (x3 : Int32) (x4 : Int32) (x5 : Int32) (M : jM) (e5 : Int32) (Me : jM), rec x1 x2 x3 x4 x5 M = some (e5, Me) → jJ Γ GX RX 93 [(0, .ref (jad Γ 65)), (1, .int x1), (2, .int x2), (3, .int x3), (4, .int x4), (5, .int e5)] [] Me Q → jJ Γ GX RX 16 [(0, .ref (jad Γ 65)), (1, .int x1), (2, .int x2), (3, .int x3), (4, .int x4), (5, .int x5)] [] M Q) (x1 : Int32) (x2 : Int32) (x3 : Int32) (x4 : Int32) (x5 : Int32) (M : jM) (e5 : Int32) (Me : jM) (h : f_X1_findWinning_L16_b rec x1 x2 x3 x4 x5 M = some (e5, Me)) (hK : jJ Γ GX RX 93 [(0, .ref (jad Γ 65)), (1, .int x1), (2, .int x2), (3, .int x3), (4, .int x4), (5, .int e5)] [] Me Q) : jJ Γ GX RX 16 [(0, .ref (jad Γ 65)), (1, .int x1), (2, .int x2), (3, .int x3), (4, .int x4), (5, .int x5)] [] M Q := by
  unfold f_X1_findWinning_L16_b at h
  refine j_iload 5 (pc' := 18) hC dX1_findWinning_16 rfl rfl ?_
  refine j_iconst (v := 3) (pc' := 19) hC dX1_findWinning_18 rfl rfl ?_
  refine j_icmp_ge (tgt := 93) (pc' := 22) hC dX1_findWinning_19 (by decide) rfl (fun c1 => ?_) (fun c1 => ?_)
  · have h := jit_t c1 h
    obtain ⟨q0, q1⟩ := jinj2 h
    subst q0
    subst q1
    refine j_sub [0, 1, 2, 3, 4, 5] rfl ?_
    exact hK
  · have h := jit_f c1 h
    refine j_iload_n 3 (pc' := 23) hC dX1_findWinning_22 rfl rfl ?_
    refine j_iconst (v := 3) (pc' := 24) hC dX1_findWinning_23 rfl rfl ?_
    refine j_imul (pc' := 25) hC dX1_findWinning_24 rfl ?_
    refine j_iload 5 (pc' := 27) hC dX1_findWinning_25 rfl rfl ?_
    refine j_iadd (pc' := 28) hC dX1_findWinning_27 rfl ?_
    obtain ⟨v2, ev2, h⟩ := jlet_s h
    refine j_istore (pc' := 30) hC dX1_findWinning_28 rfl ev2 (by decide) rfl ?_
    refine j_iload 5 (pc' := 32) hC dX1_findWinning_30 rfl rfl ?_
    refine j_iload_n 3 (pc' := 33) hC dX1_findWinning_32 rfl rfl ?_
    obtain ⟨M23, hm25, h⟩ := jb1_s h
    have K24 : jJ Γ GX RX 87 [(0, .ref (jad Γ 65)), (1, .int x1), (2, .int x2), (3, .int x3), (4, .int x4), (5, .int x5), (6, .int v2)] [] M23 Q := by
      obtain ⟨v46, ev46, h⟩ := jlet_s h
      refine j_iinc' 5 (c := 1) (pc' := 90) hC dX1_findWinning_87 rfl rfl rfl ev46 (by decide) rfl ?_
      refine j_goto (tgt := 16) (pc' := 0) hC dX1_findWinning_90 (by decide) ?_
      refine j_sub [1, 2, 3, 4, 5, 0] rfl ?_
      exact ih _ _ _ _ _ _ _ _ h hK
    refine j_icmp_gt (tgt := 48) (pc' := 36) hC dX1_findWinning_33 (by decide) rfl (fun c26 => ?_) (fun c26 => ?_)
    · have hm25 := jit_t c26 hm25
      refine j_aload_n 1 (pc' := 49) hC dX1_findWinning_48 rfl rfl ?_
      refine j_getr' (o2 := 67) (pc' := 52) hC dX1_findWinning_49 rfl fi_X1_15 gx65 rfl ?_
      refine j_iload 0 (pc' := 54) hC dX1_findWinning_52 rfl rfl ?_
      refine j_lconst (v := 0) (pc' := 55) hC dX1_findWinning_54 rfl rfl ?_
      obtain ⟨g27, hm25⟩ := jg_s hm25
      obtain ⟨M28, eM28, hm25⟩ := jlet_s hm25
      refine j_last' (pc' := 56) hC dX1_findWinning_55 rfl gx67 g27 eM28 ?_
      refine j_goto (tgt := 87) (pc' := 0) hC dX1_findWinning_56 (by decide) ?_
      have q8 := jinj1 hm25
      subst q8
      exact j_sub [1, 2, 3, 4, 5, 6, 0] rfl K24
    · have hm25 := jit_f c26 hm25
      refine j_aload_n 1 (pc' := 37) hC dX1_findWinning_36 rfl rfl ?_
      refine j_getr' (o2 := 66) (pc' := 40) hC dX1_findWinning_37 rfl fi_X1_9 gx65 rfl ?_
      refine j_iload 0 (pc' := 42) hC dX1_findWinning_40 rfl rfl ?_
      obtain ⟨g29, hm25⟩ := jg_s hm25
      refine j_lald (pc' := 43) hC dX1_findWinning_42 rfl gx66 g29 ?_
      refine j_lconst (v := 0) (pc' := 44) hC dX1_findWinning_43 rfl rfl ?_
      refine j_lcmp (pc' := 45) hC dX1_findWinning_44 rfl ?_
      refine j_if_ne (tgt := 59) (pc' := 48) hC dX1_findWinning_45 (by decide) rfl (fun c30 => ?_) (fun c30 => ?_)
      · have hm25 := jit_f c30 hm25
        refine j_aload_n 1 (pc' := 60) hC dX1_findWinning_59 rfl rfl ?_
        refine j_getr' (o2 := 67) (pc' := 63) hC dX1_findWinning_60 rfl fi_X1_15 gx65 rfl ?_
        refine j_iload 0 (pc' := 65) hC dX1_findWinning_63 rfl rfl ?_
        refine j_iload 5 (pc' := 67) hC dX1_findWinning_65 rfl rfl ?_
        refine j_iload_n 3 (pc' := 68) hC dX1_findWinning_67 rfl rfl ?_
        obtain ⟨v35, hm37, hm25⟩ := jb1_s hm25
        have K36 : jJ Γ GX RX 86 [(0, .ref (jad Γ 65)), (1, .int x1), (2, .int x2), (3, .int x3), (4, .int x4), (5, .int x5), (6, .int v2)] [.long v35, .int v2, .ref (jad Γ 67)] M Q := by
          obtain ⟨g42, hm25⟩ := jg_s hm25
          obtain ⟨M43, eM43, hm25⟩ := jlet_s hm25
          refine j_last' (pc' := 87) hC dX1_findWinning_86 rfl gx67 g42 eM43 ?_
          have q8 := jinj1 hm25
          subst q8
          exact j_sub [0, 1, 2, 3, 4, 5, 6] rfl K24
        refine j_icmp_ne (tgt := 79) (pc' := 71) hC dX1_findWinning_68 (by decide) rfl (fun c38 => ?_) (fun c38 => ?_)
        · have hm37 := jit_f c38 hm37
          refine j_aload_n 1 (pc' := 80) hC dX1_findWinning_79 rfl rfl ?_
          refine j_iload_n 4 (pc' := 81) hC dX1_findWinning_80 rfl rfl ?_
          refine j_iload 6 (pc' := 83) hC dX1_findWinning_81 rfl rfl ?_
          obtain ⟨r39, hc40, hm37⟩ := jb1_s hm37
          refine j_callVl [.int x3, .int x5] (pc' := 86) hC dX1_findWinning_83 rfl (t_X1_winningAhead _ _ hc40) gx65 vcl1 cv_X1_139 ⟨⟨Nat.le_of_ble_eq_true rfl, Nat.le_of_ble_eq_true rfl⟩, rfl, Nat.le_of_ble_eq_true rfl⟩ rfl rfl ?_
          have q8 := jinj1 hm37
          subst q8
          exact j_sub [1, 2, 3, 4, 5, 6, 0] rfl K36
        · have hm37 := jit_t c38 hm37
          refine j_gets 4 (pc' := 74) hC dX1_findWinning_71 rfl (by decide) (by decide +kernel) ?_
          refine j_iload_n 2 (pc' := 75) hC dX1_findWinning_74 rfl rfl ?_
          obtain ⟨g41, hm37⟩ := jg_s hm37
          refine j_sldl 4 (pc' := 76) hC dX1_findWinning_75 rfl (by decide) g41 ?_
          refine j_goto (tgt := 86) (pc' := 0) hC dX1_findWinning_76 (by decide) ?_
          have q8 := jinj1 hm37
          subst q8
          exact j_sub [1, 2, 3, 4, 5, 6, 0] rfl K36
      · have hm25 := jit_t c30 hm25
        refine j_aload_n 1 (pc' := 49) hC dX1_findWinning_48 rfl rfl ?_
        refine j_getr' (o2 := 67) (pc' := 52) hC dX1_findWinning_49 rfl fi_X1_15 gx65 rfl ?_
        refine j_iload 0 (pc' := 54) hC dX1_findWinning_52 rfl rfl ?_
        refine j_lconst (v := 0) (pc' := 55) hC dX1_findWinning_54 rfl rfl ?_
        obtain ⟨g44, hm25⟩ := jg_s hm25
        obtain ⟨M45, eM45, hm25⟩ := jlet_s hm25
        refine j_last' (pc' := 56) hC dX1_findWinning_55 rfl gx67 g44 eM45 ?_
        refine j_goto (tgt := 87) (pc' := 0) hC dX1_findWinning_56 (by decide) ?_
        have q8 := jinj1 hm25
        subst q8
        exact j_sub [1, 2, 3, 4, 5, 6, 0] rfl K24
theorem lp_X1_findWinning_L16 {Γ : jG} (hC : jOK Γ cX1_findWinning 7 RX1 (none) { frames := 3, cells := 0, slots := 0, locals := 74 }) {Q : State → Prop} : ∀ (n : Nat) (x1 : Int32) (x2 : Int32) (x3 : Int32) (x4 : Int32) (x5 : Int32) (M : jM) (e5 : Int32) (Me : jM), f_X1_findWinning_L16 n x1 x2 x3 x4 x5 M = some (e5, Me) → jJ Γ GX RX 93 [(0, .ref (jad Γ 65)), (1, .int x1), (2, .int x2), (3, .int x3), (4, .int x4), (5, .int e5)] [] Me Q → jJ Γ GX RX 16 [(0, .ref (jad Γ 65)), (1, .int x1), (2, .int x2), (3, .int x3), (4, .int x4), (5, .int x5)] [] M Q := by
  intro n
  induction n with
  | zero =>
    intro x1 x2 x3 x4 x5 M e5 Me h hK
    exact jno h
  | succ n ih =>
    intro x1 x2 x3 x4 x5 M e5 Me h hK
    exact lp_X1_findWinning_L16_b hC (f_X1_findWinning_L16 n) ih x1 x2 x3 x4 x5 M e5 Me h hK
theorem lp_X1_findWinning_L3_b {Γ : jG} (hC : jOK Γ cX1_findWinning 7 RX1 (none) { frames := 3, cells := 0, slots := 0, locals := 74 }) {Q : State → Prop} (rec : Int32 → Int32 → Int32 → jM → Option (Int32 × jM)) (ih : ∀ (x1 : Int32) (x2 : Int32) (x3 : Int32) (M : jM) (e3 : Int32) (Me : jM), rec x1 x2 x3 M = some (e3, Me) → jJ Γ GX RX 99 [(0, .ref (jad Γ 65)), (1, .int x1), (2, .int x2), (3, .int e3)] [] Me Q → jJ Γ GX RX 3 [(0, .ref (jad Γ 65)), (1, .int x1), (2, .int x2), (3, .int x3)] [] M Q) (x1 : Int32) (x2 : Int32) (x3 : Int32) (M : jM) (e3 : Int32) (Me : jM) (h : f_X1_findWinning_L3_b rec x1 x2 x3 M = some (e3, Me)) (hK : jJ Γ GX RX 99 [(0, .ref (jad Γ 65)), (1, .int x1), (2, .int x2), (3, .int e3)] [] Me Q) : jJ Γ GX RX 3 [(0, .ref (jad Γ 65)), (1, .int x1), (2, .int x2), (3, .int x3)] [] M Q := by
  unfold f_X1_findWinning_L3_b at h
  refine j_iload_n 3 (pc' := 4) hC dX1_findWinning_3 rfl rfl ?_
  refine j_if_lt (tgt := 99) (pc' := 7) hC dX1_findWinning_4 (by decide) rfl (fun c1 => ?_) (fun c1 => ?_)
  · have h := jit_t c1 h
    obtain ⟨q0, q1⟩ := jinj2 h
    subst q0
    subst q1
    refine j_sub [0, 1, 2, 3] rfl ?_
    exact hK
  · have h := jit_f c1 h
    refine j_iload_n 3 (pc' := 8) hC dX1_findWinning_7 rfl rfl ?_
    obtain ⟨r2, hc3, h⟩ := jb1_s h
    refine j_callSi [.int x3] (pc' := 11) hC dX1_findWinning_8 rfl (t_J6_bitCount_0f7a4 _ _ hc3) cs_X1_118 ⟨⟨Nat.le_of_ble_eq_true rfl, Nat.le_of_ble_eq_true rfl⟩, rfl, Nat.le_of_ble_eq_true rfl⟩ rfl rfl ?_
    refine j_istore (pc' := 13) hC dX1_findWinning_11 rfl rfl (by decide) rfl ?_
    refine j_iconst (v := 0) (pc' := 14) hC dX1_findWinning_13 rfl rfl ?_
    refine j_istore (pc' := 16) hC dX1_findWinning_14 rfl rfl (by decide) rfl ?_
    refine j_sub [2, 3, 4, 5, 1, 0] rfl ?_
    obtain ⟨v4, M5, hm6, h⟩ := jb2_s h
    refine lp_X1_findWinning_L16 hC  jfu x1 x2 x3 r2 (0 : Int32) M v4 M5 hm6 ?_
    obtain ⟨v7, ev7, h⟩ := jlet_s h
    refine j_iinc' 3 (c := -1) (pc' := 96) hC dX1_findWinning_93 rfl rfl rfl ev7 (by decide) rfl ?_
    refine j_goto (tgt := 3) (pc' := 0) hC dX1_findWinning_96 (by decide) ?_
    refine j_sub [1, 2, 3, 0] rfl ?_
    exact ih _ _ _ _ _ _ h hK
theorem lp_X1_findWinning_L3 {Γ : jG} (hC : jOK Γ cX1_findWinning 7 RX1 (none) { frames := 3, cells := 0, slots := 0, locals := 74 }) {Q : State → Prop} : ∀ (n : Nat) (x1 : Int32) (x2 : Int32) (x3 : Int32) (M : jM) (e3 : Int32) (Me : jM), f_X1_findWinning_L3 n x1 x2 x3 M = some (e3, Me) → jJ Γ GX RX 99 [(0, .ref (jad Γ 65)), (1, .int x1), (2, .int x2), (3, .int e3)] [] Me Q → jJ Γ GX RX 3 [(0, .ref (jad Γ 65)), (1, .int x1), (2, .int x2), (3, .int x3)] [] M Q := by
  intro n
  induction n with
  | zero =>
    intro x1 x2 x3 M e3 Me h hK
    exact jno h
  | succ n ih =>
    intro x1 x2 x3 M e3 Me h hK
    exact lp_X1_findWinning_L3_b hC (f_X1_findWinning_L3 n) ih x1 x2 x3 M e3 Me h hK
theorem t_X1_findWinning (l : Launch) (E : jE) {a1 : Int32} {a2 : Int32} {M : jM} {M' : jM} (h : f_X1_findWinning a1 a2 M = some M') : jCv l yX1_findWinning cX1_findWinning 7 (none) 3 74 E RX GX (fun a _ => [.ref (a 65), .int a1, .int a2]) M M' := by
  refine jCv_of (own := RX1) (by decide) rfl (fun _ _ => Nat.le_of_ble_eq_true rfl) ?_
  intro Γ hC
  show jJ Γ GX RX 0 [(0, .ref (jad Γ 65)), (1, .int a1), (2, .int a2)] [] M (jQv Γ RX GX M')
  unfold f_X1_findWinning at h
  refine j_bipush (v := 127) (pc' := 2) hC dX1_findWinning_0 rfl rfl ?_
  refine j_istore_n (pc' := 3) hC dX1_findWinning_2 rfl rfl (by decide) rfl ?_
  refine j_sub [1, 2, 3, 0] rfl ?_
  obtain ⟨v1, M2, hm3, h⟩ := jb2_s h
  refine lp_X1_findWinning_L3 hC  jfu a1 a2 (127 : Int32) M v1 M2 hm3 ?_
  have q8 := jinj1 h
  subst q8
  exact j_vret hC dX1_findWinning_99
theorem t_X1_isWinning (l : Launch) (E : jE) {a1 : Int32} {a2 : Int32} {M : jM} {r : Int32} (h : f_X1_isWinning a1 a2 M = some r) : jCi l yX1_isWinning cX1_isWinning 4 (some .boolean) 2 47 E RX GX (fun a _ => [.ref (a 65), .int a1, .int a2]) M r M := by
  refine jCi_of (own := RX1) (by decide) rfl (fun _ _ => Nat.le_of_ble_eq_true rfl) ?_
  intro Γ hC
  show jJ Γ GX RX 0 [(0, .ref (jad Γ 65)), (1, .int a1), (2, .int a2)] [] M (jQi Γ RX GX r M)
  unfold f_X1_isWinning at h
  refine j_aload_n 0 (pc' := 1) hC dX1_isWinning_0 rfl rfl ?_
  refine j_geti' (pc' := 4) hC dX1_isWinning_1 rfl fi_X1_22 gx65 ?_
  refine j_iconst (v := 1) (pc' := 5) hC dX1_isWinning_4 rfl rfl ?_
  refine j_iload_n 1 (pc' := 6) hC dX1_isWinning_5 rfl rfl ?_
  refine j_ishl (pc' := 7) hC dX1_isWinning_6 rfl ?_
  refine j_ior (pc' := 8) hC dX1_isWinning_7 rfl ?_
  refine j_iconst (v := 3) (pc' := 9) hC dX1_isWinning_8 rfl rfl ?_
  refine j_imul (pc' := 10) hC dX1_isWinning_9 rfl ?_
  refine j_aload_n 0 (pc' := 11) hC dX1_isWinning_10 rfl rfl ?_
  refine j_aload_n 0 (pc' := 12) hC dX1_isWinning_11 rfl rfl ?_
  refine j_geti' (pc' := 15) hC dX1_isWinning_12 rfl fi_X1_25 gx65 ?_
  refine j_iload_n 2 (pc' := 16) hC dX1_isWinning_15 rfl rfl ?_
  obtain ⟨r1, hc2, h⟩ := jb1_s h
  refine j_callVi [.int (gi M 65 5), .int a2] (pc' := 19) hC dX1_isWinning_16 rfl (t_X1_gapBehind _ _ hc2) gx65 vcl1 cv_X1_64 ⟨⟨Nat.le_of_ble_eq_true rfl, Nat.le_of_ble_eq_true rfl⟩, rfl, Nat.le_of_ble_eq_true rfl⟩ rfl rfl ?_
  refine j_iadd (pc' := 20) hC dX1_isWinning_19 rfl ?_
  obtain ⟨v3, ev3, h⟩ := jlet_s h
  refine j_istore_n (pc' := 21) hC dX1_isWinning_20 rfl ev3 (by decide) rfl ?_
  refine j_aload_n 1 (pc' := 22) hC dX1_isWinning_21 rfl rfl ?_
  refine j_getr' (o2 := 67) (pc' := 25) hC dX1_isWinning_22 rfl fi_X1_15 gx65 rfl ?_
  refine j_iload_n 0 (pc' := 26) hC dX1_isWinning_25 rfl rfl ?_
  obtain ⟨g4, h⟩ := jg_s h
  refine j_lald (pc' := 27) hC dX1_isWinning_26 rfl gx67 g4 ?_
  refine j_aload_n 1 (pc' := 28) hC dX1_isWinning_27 rfl rfl ?_
  refine j_geti' (pc' := 31) hC dX1_isWinning_28 rfl fi_X1_28 gx65 ?_
  refine j_iload_n 3 (pc' := 32) hC dX1_isWinning_31 rfl rfl ?_
  obtain ⟨r5, hc6, h⟩ := jb1_s h
  refine j_callSi [.int a2] (pc' := 35) hC dX1_isWinning_32 rfl (t_X1_deedBit _ _ hc6) cs_X1_67 ⟨⟨Nat.le_of_ble_eq_true rfl, Nat.le_of_ble_eq_true rfl⟩, rfl, Nat.le_of_ble_eq_true rfl⟩ rfl rfl ?_
  refine j_ior (pc' := 36) hC dX1_isWinning_35 rfl ?_
  refine j_lushr (pc' := 37) hC dX1_isWinning_36 rfl ?_
  refine j_lconst (v := 1) (pc' := 38) hC dX1_isWinning_37 rfl rfl ?_
  refine j_land (pc' := 39) hC dX1_isWinning_38 rfl ?_
  refine j_lconst (v := 1) (pc' := 40) hC dX1_isWinning_39 rfl rfl ?_
  refine j_lcmp (pc' := 41) hC dX1_isWinning_40 rfl ?_
  refine j_if_ne (tgt := 48) (pc' := 44) hC dX1_isWinning_41 (by decide) rfl (fun c7 => ?_) (fun c7 => ?_)
  · have h := jit_f c7 h
    refine j_iconst (v := 0) (pc' := 49) hC dX1_isWinning_48 rfl rfl ?_
    have q8 := jinj1 h
    subst q8
    exact j_zret hC dX1_isWinning_49 (by decide)
  · have h := jit_t c7 h
    refine j_iconst (v := 1) (pc' := 45) hC dX1_isWinning_44 rfl rfl ?_
    refine j_goto (tgt := 49) (pc' := 0) hC dX1_isWinning_45 (by decide) ?_
    have q8 := jinj1 h
    subst q8
    exact j_zret hC dX1_isWinning_49 (by decide)
theorem lp_X1_writeFirstPair_L16_b {Γ : jG} (hC : jOK Γ cX1_writeFirstPair 6 RX1 (none) { frames := 5, cells := 0, slots := 0, locals := 111 }) {Q : State → Prop} (o2 : Nat) (n2 : Nat) (ho2 : GX[o2]? = some (0, n2)) (rec : Int32 → Int32 → Int32 → jM → Option ((jM) ⊕ (Int32 × jM))) (ih : ∀ (x1 : Int32) (x3 : Int32) (x4 : Int32) (M : jM) (res : (jM) ⊕ (Int32 × jM)), rec x1 x3 x4 M = some res → (∀ (M' : jM), res = .inl M' → Q = jQv Γ RX GX M') → (∀ (e4 : Int32) (Me : jM), res = .inr (e4, Me) → jJ Γ GX RX 87 [(0, .ref (jad Γ 65)), (1, .int x1), (2, .ref (jad Γ o2)), (3, .int x3), (4, .int e4)] [] Me Q) → jJ Γ GX RX 16 [(0, .ref (jad Γ 65)), (1, .int x1), (2, .ref (jad Γ o2)), (3, .int x3), (4, .int x4)] [] M Q) (x1 : Int32) (x3 : Int32) (x4 : Int32) (M : jM) (res : (jM) ⊕ (Int32 × jM)) (h : f_X1_writeFirstPair_L16_b o2 n2 rec x1 x3 x4 M = some res) (hQ : ∀ (M' : jM), res = .inl M' → Q = jQv Γ RX GX M') (hK : ∀ (e4 : Int32) (Me : jM), res = .inr (e4, Me) → jJ Γ GX RX 87 [(0, .ref (jad Γ 65)), (1, .int x1), (2, .ref (jad Γ o2)), (3, .int x3), (4, .int e4)] [] Me Q) : jJ Γ GX RX 16 [(0, .ref (jad Γ 65)), (1, .int x1), (2, .ref (jad Γ o2)), (3, .int x3), (4, .int x4)] [] M Q := by
  unfold f_X1_writeFirstPair_L16_b at h
  refine j_iload 4 (pc' := 18) hC dX1_writeFirstPair_16 rfl rfl ?_
  refine j_aload_n 0 (pc' := 19) hC dX1_writeFirstPair_18 rfl rfl ?_
  refine j_getr' (o2 := 29) (pc' := 22) hC dX1_writeFirstPair_19 rfl fi_X1_31 gx65 rfl ?_
  refine j_geti' (pc' := 25) hC dX1_writeFirstPair_22 rfl fi_X1_91 gx29 ?_
  refine j_icmp_ge (tgt := 87) (pc' := 28) hC dX1_writeFirstPair_25 (by decide) rfl (fun c1 => ?_) (fun c1 => ?_)
  · have h := jit_t c1 h
    have q8 := jinj1 h
    subst q8
    refine j_sub [0, 1, 2, 3, 4] rfl ?_
    exact hK _ _ rfl
  · have h := jit_f c1 h
    refine j_iload 4 (pc' := 30) hC dX1_writeFirstPair_28 rfl rfl ?_
    obtain ⟨v3, hm5, h⟩ := jlet_s h
    have K4 : jJ Γ GX RX 40 [(0, .ref (jad Γ 65)), (1, .int x1), (2, .ref (jad Γ o2)), (3, .int x3), (4, .int x4)] [.int v3] M Q := by
      refine j_istore (pc' := 42) hC dX1_writeFirstPair_40 rfl rfl (by decide) rfl ?_
      refine j_aload_n 1 (pc' := 43) hC dX1_writeFirstPair_42 rfl rfl ?_
      refine j_iload_n 4 (pc' := 44) hC dX1_writeFirstPair_43 rfl rfl ?_
      refine j_iload 0 (pc' := 46) hC dX1_writeFirstPair_44 rfl rfl ?_
      obtain ⟨r7, hc8, h⟩ := jb1_s h
      refine j_callVi [.int x3, .int v3] (pc' := 49) hC dX1_writeFirstPair_46 rfl (t_X1_fits _ _ hc8) gx65 vcl1 cv_X1_47 ⟨⟨Nat.le_of_ble_eq_true rfl, Nat.le_of_ble_eq_true rfl⟩, rfl, Nat.le_of_ble_eq_true rfl⟩ rfl rfl ?_
      refine j_if_eq (tgt := 81) (pc' := 52) hC dX1_writeFirstPair_49 (by decide) rfl (fun c9 => ?_) (fun c9 => ?_)
      · have h := jit_t c9 h
        obtain ⟨v10, ev10, h⟩ := jlet_s h
        refine j_iinc' 5 (c := 1) (pc' := 84) hC dX1_writeFirstPair_81 rfl rfl rfl ev10 (by decide) rfl ?_
        refine j_goto (tgt := 16) (pc' := 0) hC dX1_writeFirstPair_84 (by decide) ?_
        refine j_sub [2, 3, 4, 5, 0] rfl ?_
        exact ih _ _ _ _ res h hQ hK
      · have h := jit_f c9 h
        refine j_aload_n 1 (pc' := 53) hC dX1_writeFirstPair_52 rfl rfl ?_
        refine j_iload_n 4 (pc' := 54) hC dX1_writeFirstPair_53 rfl rfl ?_
        refine j_iload 0 (pc' := 56) hC dX1_writeFirstPair_54 rfl rfl ?_
        obtain ⟨r11, hc12, h⟩ := jb1_s h
        refine j_callVi [.int x3, .int v3] (pc' := 59) hC dX1_writeFirstPair_56 rfl (t_X1_isWinning _ _ hc12) gx65 vcl1 cv_X1_136 ⟨⟨Nat.le_of_ble_eq_true rfl, Nat.le_of_ble_eq_true rfl⟩, rfl, Nat.le_of_ble_eq_true rfl⟩ rfl rfl ?_
        refine j_if_eq (tgt := 81) (pc' := 62) hC dX1_writeFirstPair_59 (by decide) rfl (fun c13 => ?_) (fun c13 => ?_)
        · have h := jit_t c13 h
          obtain ⟨v14, ev14, h⟩ := jlet_s h
          refine j_iinc' 5 (c := 1) (pc' := 84) hC dX1_writeFirstPair_81 rfl rfl rfl ev14 (by decide) rfl ?_
          refine j_goto (tgt := 16) (pc' := 0) hC dX1_writeFirstPair_84 (by decide) ?_
          refine j_sub [2, 3, 4, 5, 0] rfl ?_
          exact ih _ _ _ _ res h hQ hK
        · have h := jit_f c13 h
          refine j_aload_n 3 (pc' := 63) hC dX1_writeFirstPair_62 rfl rfl ?_
          refine j_iload_n 2 (pc' := 64) hC dX1_writeFirstPair_63 rfl rfl ?_
          refine j_iload_n 4 (pc' := 65) hC dX1_writeFirstPair_64 rfl rfl ?_
          obtain ⟨g15, h⟩ := jg_s h
          obtain ⟨M16, eM16, h⟩ := jlet_s h
          refine j_iast' (pc' := 66) hC dX1_writeFirstPair_65 rfl ho2 g15 eM16 ?_
          refine j_aload_n 3 (pc' := 67) hC dX1_writeFirstPair_66 rfl rfl ?_
          refine j_iload_n 2 (pc' := 68) hC dX1_writeFirstPair_67 rfl rfl ?_
          refine j_iconst (v := 1) (pc' := 69) hC dX1_writeFirstPair_68 rfl rfl ?_
          refine j_iadd (pc' := 70) hC dX1_writeFirstPair_69 rfl ?_
          refine j_iload 0 (pc' := 72) hC dX1_writeFirstPair_70 rfl rfl ?_
          obtain ⟨g17, h⟩ := jg_s h
          obtain ⟨M18, eM18, h⟩ := jlet_s h
          refine j_iast' (pc' := 73) hC dX1_writeFirstPair_72 rfl ho2 g17 eM18 ?_
          refine j_aload_n 1 (pc' := 74) hC dX1_writeFirstPair_73 rfl rfl ?_
          refine j_iload_n 4 (pc' := 75) hC dX1_writeFirstPair_74 rfl rfl ?_
          refine j_iload 0 (pc' := 77) hC dX1_writeFirstPair_75 rfl rfl ?_
          obtain ⟨M19, hc20, h⟩ := jb1_s h
          refine j_callVv [.int x3, .int v3] (pc' := 80) hC dX1_writeFirstPair_77 rfl (t_X1_live _ _ hc20) gx65 vcl1 cv_X1_51 ⟨⟨Nat.le_of_ble_eq_true rfl, Nat.le_of_ble_eq_true rfl⟩, rfl, Nat.le_of_ble_eq_true rfl⟩ rfl rfl ?_
          have q8 := jinj1 h
          subst q8
          rw [hQ _ rfl]
          exact j_vret hC dX1_writeFirstPair_80
    refine j_if_ge (tgt := 38) (pc' := 33) hC dX1_writeFirstPair_30 (by decide) rfl (fun c6 => ?_) (fun c6 => ?_)
    · have hm5 := jit_t c6 hm5
      refine j_iload 4 (pc' := 40) hC dX1_writeFirstPair_38 rfl rfl ?_
      subst hm5
      exact j_sub [0, 1, 2, 3, 4] rfl K4
    · have hm5 := jit_f c6 hm5
      refine j_bipush (v := -9) (pc' := 35) hC dX1_writeFirstPair_33 rfl rfl ?_
      refine j_goto (tgt := 40) (pc' := 0) hC dX1_writeFirstPair_35 (by decide) ?_
      subst hm5
      exact j_sub [0, 1, 2, 3, 4] rfl K4
theorem lp_X1_writeFirstPair_L16 {Γ : jG} (hC : jOK Γ cX1_writeFirstPair 6 RX1 (none) { frames := 5, cells := 0, slots := 0, locals := 111 }) {Q : State → Prop} (o2 : Nat) (n2 : Nat) (ho2 : GX[o2]? = some (0, n2)) : ∀ (n : Nat) (x1 : Int32) (x3 : Int32) (x4 : Int32) (M : jM) (res : (jM) ⊕ (Int32 × jM)), f_X1_writeFirstPair_L16 o2 n2 n x1 x3 x4 M = some res → (∀ (M' : jM), res = .inl M' → Q = jQv Γ RX GX M') → (∀ (e4 : Int32) (Me : jM), res = .inr (e4, Me) → jJ Γ GX RX 87 [(0, .ref (jad Γ 65)), (1, .int x1), (2, .ref (jad Γ o2)), (3, .int x3), (4, .int e4)] [] Me Q) → jJ Γ GX RX 16 [(0, .ref (jad Γ 65)), (1, .int x1), (2, .ref (jad Γ o2)), (3, .int x3), (4, .int x4)] [] M Q := by
  intro n
  induction n with
  | zero =>
    intro x1 x3 x4 M res h hQ hK
    exact jno h
  | succ n ih =>
    intro x1 x3 x4 M res h hQ hK
    exact lp_X1_writeFirstPair_L16_b hC o2 n2 ho2 (f_X1_writeFirstPair_L16 o2 n2 n) ih x1 x3 x4 M res h hQ hK
theorem lp_X1_writeFirstPair_L2_b {Γ : jG} (hC : jOK Γ cX1_writeFirstPair 6 RX1 (none) { frames := 5, cells := 0, slots := 0, locals := 111 }) {Q : State → Prop} (o2 : Nat) (n2 : Nat) (ho2 : GX[o2]? = some (0, n2)) (rec : Int32 → Int32 → jM → Option ((jM) ⊕ (Int32 × jM))) (ih : ∀ (x1 : Int32) (x3 : Int32) (M : jM) (res : (jM) ⊕ (Int32 × jM)), rec x1 x3 M = some res → (∀ (M' : jM), res = .inl M' → Q = jQv Γ RX GX M') → (∀ (e3 : Int32) (Me : jM), res = .inr (e3, Me) → jJ Γ GX RX 93 [(0, .ref (jad Γ 65)), (1, .int x1), (2, .ref (jad Γ o2)), (3, .int e3)] [] Me Q) → jJ Γ GX RX 2 [(0, .ref (jad Γ 65)), (1, .int x1), (2, .ref (jad Γ o2)), (3, .int x3)] [] M Q) (x1 : Int32) (x3 : Int32) (M : jM) (res : (jM) ⊕ (Int32 × jM)) (h : f_X1_writeFirstPair_L2_b o2 n2 rec x1 x3 M = some res) (hQ : ∀ (M' : jM), res = .inl M' → Q = jQv Γ RX GX M') (hK : ∀ (e3 : Int32) (Me : jM), res = .inr (e3, Me) → jJ Γ GX RX 93 [(0, .ref (jad Γ 65)), (1, .int x1), (2, .ref (jad Γ o2)), (3, .int e3)] [] Me Q) : jJ Γ GX RX 2 [(0, .ref (jad Γ 65)), (1, .int x1), (2, .ref (jad Γ o2)), (3, .int x3)] [] M Q := by
  unfold f_X1_writeFirstPair_L2_b at h
  refine j_iload_n 3 (pc' := 3) hC dX1_writeFirstPair_2 rfl rfl ?_
  refine j_aload_n 0 (pc' := 4) hC dX1_writeFirstPair_3 rfl rfl ?_
  refine j_getr' (o2 := 29) (pc' := 7) hC dX1_writeFirstPair_4 rfl fi_X1_31 gx65 rfl ?_
  refine j_geti' (pc' := 10) hC dX1_writeFirstPair_7 rfl fi_X1_133 gx29 ?_
  refine j_icmp_ge (tgt := 93) (pc' := 13) hC dX1_writeFirstPair_10 (by decide) rfl (fun c1 => ?_) (fun c1 => ?_)
  · have h := jit_t c1 h
    have q8 := jinj1 h
    subst q8
    refine j_sub [0, 1, 2, 3] rfl ?_
    exact hK _ _ rfl
  · have h := jit_f c1 h
    refine j_iconst (v := -1) (pc' := 14) hC dX1_writeFirstPair_13 rfl rfl ?_
    refine j_istore (pc' := 16) hC dX1_writeFirstPair_14 rfl rfl (by decide) rfl ?_
    refine j_sub [1, 2, 3, 4, 0] rfl ?_
    rcases jt2_s h with ⟨q9, hm4, hq9⟩ | ⟨v2, M3, hm4, h⟩
    · exact lp_X1_writeFirstPair_L16 hC o2 n2 ho2 jfu x1 x3 (-1 : Int32) M _ hm4 (fun z0 e => by cases e; exact hQ _ hq9) (fun _ _ e => by cases e)
    · refine lp_X1_writeFirstPair_L16 hC o2 n2 ho2 jfu x1 x3 (-1 : Int32) M _ hm4 (fun _ e => by cases e) (fun _ _ e => ?_)
      cases e
      obtain ⟨v5, ev5, h⟩ := jlet_s h
      refine j_iinc' 3 (c := 1) (pc' := 90) hC dX1_writeFirstPair_87 rfl rfl rfl ev5 (by decide) rfl ?_
      refine j_goto (tgt := 2) (pc' := 0) hC dX1_writeFirstPair_90 (by decide) ?_
      refine j_sub [1, 2, 3, 0] rfl ?_
      exact ih _ _ _ res h hQ hK
theorem lp_X1_writeFirstPair_L2 {Γ : jG} (hC : jOK Γ cX1_writeFirstPair 6 RX1 (none) { frames := 5, cells := 0, slots := 0, locals := 111 }) {Q : State → Prop} (o2 : Nat) (n2 : Nat) (ho2 : GX[o2]? = some (0, n2)) : ∀ (n : Nat) (x1 : Int32) (x3 : Int32) (M : jM) (res : (jM) ⊕ (Int32 × jM)), f_X1_writeFirstPair_L2 o2 n2 n x1 x3 M = some res → (∀ (M' : jM), res = .inl M' → Q = jQv Γ RX GX M') → (∀ (e3 : Int32) (Me : jM), res = .inr (e3, Me) → jJ Γ GX RX 93 [(0, .ref (jad Γ 65)), (1, .int x1), (2, .ref (jad Γ o2)), (3, .int e3)] [] Me Q) → jJ Γ GX RX 2 [(0, .ref (jad Γ 65)), (1, .int x1), (2, .ref (jad Γ o2)), (3, .int x3)] [] M Q := by
  intro n
  induction n with
  | zero =>
    intro x1 x3 M res h hQ hK
    exact jno h
  | succ n ih =>
    intro x1 x3 M res h hQ hK
    exact lp_X1_writeFirstPair_L2_b hC o2 n2 ho2 (f_X1_writeFirstPair_L2 o2 n2 n) ih x1 x3 M res h hQ hK
theorem t_X1_writeFirstPair (l : Launch) (E : jE) {a1 : Int32} {o2 : Nat} {n2 : Nat} (ho2 : GX[o2]? = some (0, n2)) {M : jM} {M' : jM} (h : f_X1_writeFirstPair a1 o2 n2 M = some M') : jCv l yX1_writeFirstPair cX1_writeFirstPair 6 (none) 5 111 E RX GX (fun a _ => [.ref (a 65), .int a1, .ref (a o2)]) M M' := by
  refine jCv_of (own := RX1) (by decide) rfl (fun _ _ => Nat.le_of_ble_eq_true rfl) ?_
  intro Γ hC
  show jJ Γ GX RX 0 [(0, .ref (jad Γ 65)), (1, .int a1), (2, .ref (jad Γ o2))] [] M (jQv Γ RX GX M')
  unfold f_X1_writeFirstPair at h
  refine j_iconst (v := 0) (pc' := 1) hC dX1_writeFirstPair_0 rfl rfl ?_
  refine j_istore_n (pc' := 2) hC dX1_writeFirstPair_1 rfl rfl (by decide) rfl ?_
  refine j_sub [1, 2, 3, 0] rfl ?_
  rcases jr2_s h with hm3 | ⟨v1, M2, hm3, h⟩
  · exact lp_X1_writeFirstPair_L2 hC o2 n2 ho2 jfu a1 (0 : Int32) M _ hm3 (fun _ e => by cases e; rfl) (fun _ _ e => by cases e)
  · refine lp_X1_writeFirstPair_L2 hC o2 n2 ho2 jfu a1 (0 : Int32) M _ hm3 (fun _ e => by cases e) (fun _ _ e => ?_)
    cases e
    have q8 := jinj1 h
    subst q8
    exact j_vret hC dX1_writeFirstPair_93
