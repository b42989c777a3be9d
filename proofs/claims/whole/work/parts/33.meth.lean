theorem t_X6_mix (l : Launch) (E : jE) {a1 : Int64} {M : jM} {M' : jM} (h : f_X6_mix a1 M = some M') : jCv l yX6_mix cX6_mix 3 (none) 0 0 E RM GM (fun a _ => [.ref (a 0), .long a1]) M M' := by
  refine jCv_of (own := RX6) (by decide) rfl (fun _ _ => Nat.le_of_ble_eq_true rfl) ?_
  intro Γ hC
  show jJ Γ GM RM 0 [(0, .ref (jad Γ 0)), (1, .long a1)] [] M (jQv Γ RM GM M')
  unfold f_X6_mix at h
  refine j_aload_n 0 (pc' := 1) hC dX6_mix_0 rfl rfl ?_
  refine j_ldc2 (pc' := 4) hC dX6_mix_1 rfl ck_X6_307 ?_
  refine j_aload_n 0 (pc' := 5) hC dX6_mix_4 rfl rfl ?_
  refine j_getl' (pc' := 8) hC dX6_mix_5 rfl fi_X6_309 gm0 ?_
  refine j_lmul (pc' := 9) hC dX6_mix_8 rfl ?_
  refine j_lload_n 1 (pc' := 10) hC dX6_mix_9 rfl rfl ?_
  refine j_ladd (pc' := 11) hC dX6_mix_10 rfl ?_
  obtain ⟨M1, eM1, h⟩ := jlet_s h
  refine j_putl' (pc' := 14) hC dX6_mix_11 rfl fp_X6_309 gm0 eM1 ?_
  have q8 := jinj1 h
  subst q8
  exact j_vret hC dX6_mix_14
theorem lp_X6_digest_L9_b {Γ : jG} (hC : jOK Γ cX6_digest 3 RX6 (some .long) { frames := 3, cells := 0, slots := 0, locals := 68 }) {Q : State → Prop} (rec : Int32 → jM → Option (Int32 × jM)) (ih : ∀ (x1 : Int32) (M : jM) (e1 : Int32) (Me : jM), rec x1 M = some (e1, Me) → jJ Γ GM RM 31 [(0, .ref (jad Γ 0)), (1, .int e1)] [] Me Q → jJ Γ GM RM 9 [(0, .ref (jad Γ 0)), (1, .int x1)] [] M Q) (x1 : Int32) (M : jM) (e1 : Int32) (Me : jM) (h : f_X6_digest_L9_b rec x1 M = some (e1, Me)) (hK : jJ Γ GM RM 31 [(0, .ref (jad Γ 0)), (1, .int e1)] [] Me Q) : jJ Γ GM RM 9 [(0, .ref (jad Γ 0)), (1, .int x1)] [] M Q := by
  unfold f_X6_digest_L9_b at h
  refine j_iload_n 1 (pc' := 10) hC dX6_digest_9 rfl rfl ?_
  refine j_bipush (v := 9) (pc' := 12) hC dX6_digest_10 rfl rfl ?_
  refine j_icmp_ge (tgt := 31) (pc' := 15) hC dX6_digest_12 (by decide) rfl (fun c1 => ?_) (fun c1 => ?_)
  · have h := jit_t c1 h
    obtain ⟨q0, q1⟩ := jinj2 h
    subst q0
    subst q1
    refine j_sub [0, 1] rfl ?_
    exact hK
  · have h := jit_f c1 h
    refine j_aload_n 0 (pc' := 16) hC dX6_digest_15 rfl rfl ?_
    refine j_aload_n 0 (pc' := 17) hC dX6_digest_16 rfl rfl ?_
    refine j_iload_n 1 (pc' := 18) hC dX6_digest_17 rfl rfl ?_
    obtain ⟨r2, hc3, h⟩ := jb1_s h
    refine j_callVi [.int x1] (pc' := 21) hC dX6_digest_18 rfl (t_X6_count _ _ hc3) gm0 vcl6 cv_X6_312 ⟨⟨Nat.le_of_ble_eq_true rfl, Nat.le_of_ble_eq_true rfl⟩, rfl, Nat.le_of_ble_eq_true rfl⟩ rfl rfl ?_
    refine j_i2l (pc' := 22) hC dX6_digest_21 rfl ?_
    obtain ⟨M4, hc5, h⟩ := jb1_s h
    refine j_callVv [.long r2.toInt64] (pc' := 25) hC dX6_digest_22 rfl (t_X6_mix _ _ hc5) gm0 vcl6 cv_X6_315 ⟨⟨Nat.le_of_ble_eq_true rfl, Nat.le_of_ble_eq_true rfl⟩, rfl, Nat.le_of_ble_eq_true rfl⟩ rfl rfl ?_
    obtain ⟨v6, ev6, h⟩ := jlet_s h
    refine j_iinc' 1 (c := 1) (pc' := 28) hC dX6_digest_25 rfl rfl rfl ev6 (by decide) rfl ?_
    refine j_goto (tgt := 9) (pc' := 0) hC dX6_digest_28 (by decide) ?_
    refine j_sub [1, 0] rfl ?_
    exact ih _ _ _ _ h hK
theorem lp_X6_digest_L9 {Γ : jG} (hC : jOK Γ cX6_digest 3 RX6 (some .long) { frames := 3, cells := 0, slots := 0, locals := 68 }) {Q : State → Prop} : ∀ (n : Nat) (x1 : Int32) (M : jM) (e1 : Int32) (Me : jM), f_X6_digest_L9 n x1 M = some (e1, Me) → jJ Γ GM RM 31 [(0, .ref (jad Γ 0)), (1, .int e1)] [] Me Q → jJ Γ GM RM 9 [(0, .ref (jad Γ 0)), (1, .int x1)] [] M Q := by
  intro n
  induction n with
  | zero =>
    intro x1 M e1 Me h hK
    exact jno h
  | succ n ih =>
    intro x1 M e1 Me h hK
    exact lp_X6_digest_L9_b hC (f_X6_digest_L9 n) ih x1 M e1 Me h hK
theorem lp_X6_digest_L44_b {Γ : jG} (hC : jOK Γ cX6_digest 3 RX6 (some .long) { frames := 3, cells := 0, slots := 0, locals := 68 }) {Q : State → Prop} (rec : Int32 → jM → Option (Int32 × jM)) (ih : ∀ (x1 : Int32) (M : jM) (e1 : Int32) (Me : jM), rec x1 M = some (e1, Me) → jJ Γ GM RM 66 [(0, .ref (jad Γ 0)), (1, .int e1)] [] Me Q → jJ Γ GM RM 44 [(0, .ref (jad Γ 0)), (1, .int x1)] [] M Q) (x1 : Int32) (M : jM) (e1 : Int32) (Me : jM) (h : f_X6_digest_L44_b rec x1 M = some (e1, Me)) (hK : jJ Γ GM RM 66 [(0, .ref (jad Γ 0)), (1, .int e1)] [] Me Q) : jJ Γ GM RM 44 [(0, .ref (jad Γ 0)), (1, .int x1)] [] M Q := by
  unfold f_X6_digest_L44_b at h
  refine j_iload_n 1 (pc' := 45) hC dX6_digest_44 rfl rfl ?_
  refine j_iconst (v := 3) (pc' := 46) hC dX6_digest_45 rfl rfl ?_
  refine j_icmp_ge (tgt := 66) (pc' := 49) hC dX6_digest_46 (by decide) rfl (fun c1 => ?_) (fun c1 => ?_)
  · have h := jit_t c1 h
    obtain ⟨q0, q1⟩ := jinj2 h
    subst q0
    subst q1
    refine j_sub [0, 1] rfl ?_
    exact hK
  · have h := jit_f c1 h
    refine j_aload_n 0 (pc' := 50) hC dX6_digest_49 rfl rfl ?_
    refine j_aload_n 0 (pc' := 51) hC dX6_digest_50 rfl rfl ?_
    refine j_getr' (o2 := 11) (pc' := 54) hC dX6_digest_51 rfl fi_X6_40 gm0 rfl ?_
    refine j_iload_n 1 (pc' := 55) hC dX6_digest_54 rfl rfl ?_
    obtain ⟨g2, h⟩ := jg_s h
    refine j_iald (pc' := 56) hC dX6_digest_55 rfl gm11 g2 ?_
    refine j_i2l (pc' := 57) hC dX6_digest_56 rfl ?_
    obtain ⟨M3, hc4, h⟩ := jb1_s h
    refine j_callVv [.long (gi M 11 x1.toNatClampNeg).toInt64] (pc' := 60) hC dX6_digest_57 rfl (t_X6_mix _ _ hc4) gm0 vcl6 cv_X6_315 ⟨⟨Nat.le_of_ble_eq_true rfl, Nat.le_of_ble_eq_true rfl⟩, rfl, Nat.le_of_ble_eq_true rfl⟩ rfl rfl ?_
    obtain ⟨v5, ev5, h⟩ := jlet_s h
    refine j_iinc' 1 (c := 1) (pc' := 63) hC dX6_digest_60 rfl rfl rfl ev5 (by decide) rfl ?_
    refine j_goto (tgt := 44) (pc' := 0) hC dX6_digest_63 (by decide) ?_
    refine j_sub [1, 0] rfl ?_
    exact ih _ _ _ _ h hK
theorem lp_X6_digest_L44 {Γ : jG} (hC : jOK Γ cX6_digest 3 RX6 (some .long) { frames := 3, cells := 0, slots := 0, locals := 68 }) {Q : State → Prop} : ∀ (n : Nat) (x1 : Int32) (M : jM) (e1 : Int32) (Me : jM), f_X6_digest_L44 n x1 M = some (e1, Me) → jJ Γ GM RM 66 [(0, .ref (jad Γ 0)), (1, .int e1)] [] Me Q → jJ Γ GM RM 44 [(0, .ref (jad Γ 0)), (1, .int x1)] [] M Q := by
  intro n
  induction n with
  | zero =>
    intro x1 M e1 Me h hK
    exact jno h
  | succ n ih =>
    intro x1 M e1 Me h hK
    exact lp_X6_digest_L44_b hC (f_X6_digest_L44 n) ih x1 M e1 Me h hK
theorem lp_X6_digest_L68_b {Γ : jG} (hC : jOK Γ cX6_digest 3 RX6 (some .long) { frames := 3, cells := 0, slots := 0, locals := 68 }) {Q : State → Prop} (rec : Int32 → jM → Option (Int32 × jM)) (ih : ∀ (x1 : Int32) (M : jM) (e1 : Int32) (Me : jM), rec x1 M = some (e1, Me) → jJ Γ GM RM 99 [(0, .ref (jad Γ 0)), (1, .int e1)] [] Me Q → jJ Γ GM RM 68 [(0, .ref (jad Γ 0)), (1, .int x1)] [] M Q) (x1 : Int32) (M : jM) (e1 : Int32) (Me : jM) (h : f_X6_digest_L68_b rec x1 M = some (e1, Me)) (hK : jJ Γ GM RM 99 [(0, .ref (jad Γ 0)), (1, .int e1)] [] Me Q) : jJ Γ GM RM 68 [(0, .ref (jad Γ 0)), (1, .int x1)] [] M Q := by
  unfold f_X6_digest_L68_b at h
  refine j_iload_n 1 (pc' := 69) hC dX6_digest_68 rfl rfl ?_
  refine j_iconst (v := 5) (pc' := 70) hC dX6_digest_69 rfl rfl ?_
  refine j_aload_n 0 (pc' := 71) hC dX6_digest_70 rfl rfl ?_
  refine j_geti' (pc' := 74) hC dX6_digest_71 rfl fi_X6_156 gm0 ?_
  refine j_imul (pc' := 75) hC dX6_digest_74 rfl ?_
  refine j_icmp_ge (tgt := 99) (pc' := 78) hC dX6_digest_75 (by decide) rfl (fun c1 => ?_) (fun c1 => ?_)
  · have h := jit_t c1 h
    obtain ⟨q0, q1⟩ := jinj2 h
    subst q0
    subst q1
    refine j_sub [0, 1] rfl ?_
    exact hK
  · have h := jit_f c1 h
    refine j_aload_n 0 (pc' := 79) hC dX6_digest_78 rfl rfl ?_
    refine j_aload_n 0 (pc' := 80) hC dX6_digest_79 rfl rfl ?_
    refine j_iload_n 1 (pc' := 81) hC dX6_digest_80 rfl rfl ?_
    refine j_iconst (v := 5) (pc' := 82) hC dX6_digest_81 rfl rfl ?_
    refine j_idiv (pc' := 83) hC dX6_digest_82 rfl (by decide) ?_
    refine j_iload_n 1 (pc' := 84) hC dX6_digest_83 rfl rfl ?_
    refine j_iconst (v := 5) (pc' := 85) hC dX6_digest_84 rfl rfl ?_
    refine j_irem (pc' := 86) hC dX6_digest_85 rfl (by decide) ?_
    obtain ⟨r2, hc3, h⟩ := jb1_s h
    refine j_callVi [.int (x1 / (5 : Int32)), .int (x1 - x1 / (5 : Int32) * (5 : Int32))] (pc' := 89) hC dX6_digest_86 rfl (t_X6_deedOf _ _ hc3) gm0 vcl6 cv_X6_173 ⟨⟨Nat.le_of_ble_eq_true rfl, Nat.le_of_ble_eq_true rfl⟩, rfl, Nat.le_of_ble_eq_true rfl⟩ rfl rfl ?_
    refine j_i2l (pc' := 90) hC dX6_digest_89 rfl ?_
    obtain ⟨M4, hc5, h⟩ := jb1_s h
    refine j_callVv [.long r2.toInt64] (pc' := 93) hC dX6_digest_90 rfl (t_X6_mix _ _ hc5) gm0 vcl6 cv_X6_315 ⟨⟨Nat.le_of_ble_eq_true rfl, Nat.le_of_ble_eq_true rfl⟩, rfl, Nat.le_of_ble_eq_true rfl⟩ rfl rfl ?_
    obtain ⟨v6, ev6, h⟩ := jlet_s h
    refine j_iinc' 1 (c := 1) (pc' := 96) hC dX6_digest_93 rfl rfl rfl ev6 (by decide) rfl ?_
    refine j_goto (tgt := 68) (pc' := 0) hC dX6_digest_96 (by decide) ?_
    refine j_sub [1, 0] rfl ?_
    exact ih _ _ _ _ h hK
theorem lp_X6_digest_L68 {Γ : jG} (hC : jOK Γ cX6_digest 3 RX6 (some .long) { frames := 3, cells := 0, slots := 0, locals := 68 }) {Q : State → Prop} : ∀ (n : Nat) (x1 : Int32) (M : jM) (e1 : Int32) (Me : jM), f_X6_digest_L68 n x1 M = some (e1, Me) → jJ Γ GM RM 99 [(0, .ref (jad Γ 0)), (1, .int e1)] [] Me Q → jJ Γ GM RM 68 [(0, .ref (jad Γ 0)), (1, .int x1)] [] M Q := by
  intro n
  induction n with
  | zero =>
    intro x1 M e1 Me h hK
    exact jno h
  | succ n ih =>
    intro x1 M e1 Me h hK
    exact lp_X6_digest_L68_b hC (f_X6_digest_L68 n) ih x1 M e1 Me h hK
theorem lp_X6_digest_L101_b {Γ : jG} (hC : jOK Γ cX6_digest 3 RX6 (some .long) { frames := 3, cells := 0, slots := 0, locals := 68 }) {Q : State → Prop} (rec : Int32 → jM → Option (Int32 × jM)) (ih : ∀ (x1 : Int32) (M : jM) (e1 : Int32) (Me : jM), rec x1 M = some (e1, Me) → jJ Γ GM RM 132 [(0, .ref (jad Γ 0)), (1, .int e1)] [] Me Q → jJ Γ GM RM 101 [(0, .ref (jad Γ 0)), (1, .int x1)] [] M Q) (x1 : Int32) (M : jM) (e1 : Int32) (Me : jM) (h : f_X6_digest_L101_b rec x1 M = some (e1, Me)) (hK : jJ Γ GM RM 132 [(0, .ref (jad Γ 0)), (1, .int e1)] [] Me Q) : jJ Γ GM RM 101 [(0, .ref (jad Γ 0)), (1, .int x1)] [] M Q := by
  unfold f_X6_digest_L101_b at h
  refine j_iload_n 1 (pc' := 102) hC dX6_digest_101 rfl rfl ?_
  refine j_iconst (v := 5) (pc' := 103) hC dX6_digest_102 rfl rfl ?_
  refine j_aload_n 0 (pc' := 104) hC dX6_digest_103 rfl rfl ?_
  refine j_geti' (pc' := 107) hC dX6_digest_104 rfl fi_X6_159 gm0 ?_
  refine j_imul (pc' := 108) hC dX6_digest_107 rfl ?_
  refine j_icmp_ge (tgt := 132) (pc' := 111) hC dX6_digest_108 (by decide) rfl (fun c1 => ?_) (fun c1 => ?_)
  · have h := jit_t c1 h
    obtain ⟨q0, q1⟩ := jinj2 h
    subst q0
    subst q1
    refine j_sub [0, 1] rfl ?_
    exact hK
  · have h := jit_f c1 h
    refine j_aload_n 0 (pc' := 112) hC dX6_digest_111 rfl rfl ?_
    refine j_aload_n 0 (pc' := 113) hC dX6_digest_112 rfl rfl ?_
    refine j_iload_n 1 (pc' := 114) hC dX6_digest_113 rfl rfl ?_
    refine j_iconst (v := 5) (pc' := 115) hC dX6_digest_114 rfl rfl ?_
    refine j_idiv (pc' := 116) hC dX6_digest_115 rfl (by decide) ?_
    refine j_iload_n 1 (pc' := 117) hC dX6_digest_116 rfl rfl ?_
    refine j_iconst (v := 5) (pc' := 118) hC dX6_digest_117 rfl rfl ?_
    refine j_irem (pc' := 119) hC dX6_digest_118 rfl (by decide) ?_
    obtain ⟨r2, hc3, h⟩ := jb1_s h
    refine j_callVi [.int (x1 / (5 : Int32)), .int (x1 - x1 / (5 : Int32) * (5 : Int32))] (pc' := 122) hC dX6_digest_119 rfl (t_X6_hourOf _ _ hc3) gm0 vcl6 cv_X6_192 ⟨⟨Nat.le_of_ble_eq_true rfl, Nat.le_of_ble_eq_true rfl⟩, rfl, Nat.le_of_ble_eq_true rfl⟩ rfl rfl ?_
    refine j_i2l (pc' := 123) hC dX6_digest_122 rfl ?_
    obtain ⟨M4, hc5, h⟩ := jb1_s h
    refine j_callVv [.long r2.toInt64] (pc' := 126) hC dX6_digest_123 rfl (t_X6_mix _ _ hc5) gm0 vcl6 cv_X6_315 ⟨⟨Nat.le_of_ble_eq_true rfl, Nat.le_of_ble_eq_true rfl⟩, rfl, Nat.le_of_ble_eq_true rfl⟩ rfl rfl ?_
    obtain ⟨v6, ev6, h⟩ := jlet_s h
    refine j_iinc' 1 (c := 1) (pc' := 129) hC dX6_digest_126 rfl rfl rfl ev6 (by decide) rfl ?_
    refine j_goto (tgt := 101) (pc' := 0) hC dX6_digest_129 (by decide) ?_
    refine j_sub [1, 0] rfl ?_
    exact ih _ _ _ _ h hK
theorem lp_X6_digest_L101 {Γ : jG} (hC : jOK Γ cX6_digest 3 RX6 (some .long) { frames := 3, cells := 0, slots := 0, locals := 68 }) {Q : State → Prop} : ∀ (n : Nat) (x1 : Int32) (M : jM) (e1 : Int32) (Me : jM), f_X6_digest_L101 n x1 M = some (e1, Me) → jJ Γ GM RM 132 [(0, .ref (jad Γ 0)), (1, .int e1)] [] Me Q → jJ Γ GM RM 101 [(0, .ref (jad Γ 0)), (1, .int x1)] [] M Q := by
  intro n
  induction n with
  | zero =>
    intro x1 M e1 Me h hK
    exact jno h
  | succ n ih =>
    intro x1 M e1 Me h hK
    exact lp_X6_digest_L101_b hC (f_X6_digest_L101 n) ih x1 M e1 Me h hK
theorem lp_X6_digest_L134_b {Γ : jG} (hC : jOK Γ cX6_digest 3 RX6 (some .long) { frames := 3, cells := 0, slots := 0, locals := 68 }) {Q : State → Prop} (rec : Int32 → jM → Option (Int32 × jM)) (ih : ∀ (x1 : Int32) (M : jM) (e1 : Int32) (Me : jM), rec x1 M = some (e1, Me) → jJ Γ GM RM 179 [(0, .ref (jad Γ 0)), (1, .int e1)] [] Me Q → jJ Γ GM RM 134 [(0, .ref (jad Γ 0)), (1, .int x1)] [] M Q) (x1 : Int32) (M : jM) (e1 : Int32) (Me : jM) (h : f_X6_digest_L134_b rec x1 M = some (e1, Me)) (hK : jJ Γ GM RM 179 [(0, .ref (jad Γ 0)), (1, .int e1)] [] Me Q) : jJ Γ GM RM 134 [(0, .ref (jad Γ 0)), (1, .int x1)] [] M Q := by
  unfold f_X6_digest_L134_b at h
  refine j_iload_n 1 (pc' := 135) hC dX6_digest_134 rfl rfl ?_
  refine j_iconst (v := 3) (pc' := 136) hC dX6_digest_135 rfl rfl ?_
  refine j_icmp_ge (tgt := 179) (pc' := 139) hC dX6_digest_136 (by decide) rfl (fun c1 => ?_) (fun c1 => ?_)
  · have h := jit_t c1 h
    obtain ⟨q0, q1⟩ := jinj2 h
    subst q0
    subst q1
    refine j_sub [0, 1] rfl ?_
    exact hK
  · have h := jit_f c1 h
    refine j_aload_n 0 (pc' := 140) hC dX6_digest_139 rfl rfl ?_
    refine j_aload_n 0 (pc' := 141) hC dX6_digest_140 rfl rfl ?_
    refine j_getr' (o2 := 18) (pc' := 144) hC dX6_digest_141 rfl fi_X6_65 gm0 rfl ?_
    refine j_iload_n 1 (pc' := 145) hC dX6_digest_144 rfl rfl ?_
    obtain ⟨g2, h⟩ := jg_s h
    refine j_zald (pc' := 146) hC dX6_digest_145 rfl gm18 g2 ?_
    obtain ⟨v5, hm7, h⟩ := jb1_s h
    have K6 : jJ Γ GM RM 170 [(0, .ref (jad Γ 0)), (1, .int x1)] [.long v5, .ref (jad Γ 0)] M Q := by
      obtain ⟨M10, hc11, h⟩ := jb1_s h
      refine j_callVv [.long v5] (pc' := 173) hC dX6_digest_170 rfl (t_X6_mix _ _ hc11) gm0 vcl6 cv_X6_315 ⟨⟨Nat.le_of_ble_eq_true rfl, Nat.le_of_ble_eq_true rfl⟩, rfl, Nat.le_of_ble_eq_true rfl⟩ rfl rfl ?_
      obtain ⟨v12, ev12, h⟩ := jlet_s h
      refine j_iinc' 1 (c := 1) (pc' := 176) hC dX6_digest_173 rfl rfl rfl ev12 (by decide) rfl ?_
      refine j_goto (tgt := 134) (pc' := 0) hC dX6_digest_176 (by decide) ?_
      refine j_sub [1, 0] rfl ?_
      exact ih _ _ _ _ h hK
    refine j_if_eq (tgt := 167) (pc' := 149) hC dX6_digest_146 (by decide) rfl (fun c8 => ?_) (fun c8 => ?_)
    · have hm7 := jit_t c8 hm7
      refine j_ldc2 (pc' := 170) hC dX6_digest_167 rfl ck_X6_319 ?_
      have q8 := jinj1 hm7
      subst q8
      exact j_sub [0, 1] rfl K6
    · have hm7 := jit_f c8 hm7
      refine j_aload_n 0 (pc' := 150) hC dX6_digest_149 rfl rfl ?_
      refine j_getr' (o2 := 19) (pc' := 153) hC dX6_digest_150 rfl fi_X6_69 gm0 rfl ?_
      refine j_sipush (v := 496) (pc' := 156) hC dX6_digest_153 rfl rfl ?_
      refine j_iload_n 1 (pc' := 157) hC dX6_digest_156 rfl rfl ?_
      refine j_imul (pc' := 158) hC dX6_digest_157 rfl ?_
      refine j_sipush (v := 495) (pc' := 161) hC dX6_digest_158 rfl rfl ?_
      refine j_iadd (pc' := 162) hC dX6_digest_161 rfl ?_
      obtain ⟨g9, hm7⟩ := jg_s hm7
      refine j_iald (pc' := 163) hC dX6_digest_162 rfl gm19 g9 ?_
      refine j_i2l (pc' := 164) hC dX6_digest_163 rfl ?_
      refine j_goto (tgt := 170) (pc' := 0) hC dX6_digest_164 (by decide) ?_
      have q8 := jinj1 hm7
      subst q8
      exact j_sub [0, 1] rfl K6
theorem lp_X6_digest_L134 {Γ : jG} (hC : jOK Γ cX6_digest 3 RX6 (some .long) { frames := 3, cells := 0, slots := 0, locals := 68 }) {Q : State → Prop} : ∀ (n : Nat) (x1 : Int32) (M : jM) (e1 : Int32) (Me : jM), f_X6_digest_L134 n x1 M = some (e1, Me) → jJ Γ GM RM 179 [(0, .ref (jad Γ 0)), (1, .int e1)] [] Me Q → jJ Γ GM RM 134 [(0, .ref (jad Γ 0)), (1, .int x1)] [] M Q := by
  intro n
  induction n with
  | zero =>
    intro x1 M e1 Me h hK
    exact jno h
  | succ n ih =>
    intro x1 M e1 Me h hK
    exact lp_X6_digest_L134_b hC (f_X6_digest_L134 n) ih x1 M e1 Me h hK
theorem lp_X6_digest_L200_b {Γ : jG} (hC : jOK Γ cX6_digest 3 RX6 (some .long) { frames := 3, cells := 0, slots := 0, locals := 68 }) {Q : State → Prop} (rec : Int32 → Int32 → jM → Option (Int32 × jM)) (ih : ∀ (x1 : Int32) (x2 : Int32) (M : jM) (e2 : Int32) (Me : jM), rec x1 x2 M = some (e2, Me) → jJ Γ GM RM 232 [(0, .ref (jad Γ 0)), (1, .int x1), (2, .int e2)] [] Me Q → jJ Γ GM RM 200 [(0, .ref (jad Γ 0)), (1, .int x1), (2, .int x2)] [] M Q) (x1 : Int32) (x2 : Int32) (M : jM) (e2 : Int32) (Me : jM) (h : f_X6_digest_L200_b rec x1 x2 M = some (e2, Me)) (hK : jJ Γ GM RM 232 [(0, .ref (jad Γ 0)), (1, .int x1), (2, .int e2)] [] Me Q) : jJ Γ GM RM 200 [(0, .ref (jad Γ 0)), (1, .int x1), (2, .int x2)] [] M Q := by
  unfold f_X6_digest_L200_b at h
  refine j_iload_n 2 (pc' := 201) hC dX6_digest_200 rfl rfl ?_
  refine j_aload_n 0 (pc' := 202) hC dX6_digest_201 rfl rfl ?_
  refine j_getr' (o2 := 1) (pc' := 205) hC dX6_digest_202 rfl fi_X6_7 gm0 rfl ?_
  refine j_iload_n 1 (pc' := 206) hC dX6_digest_205 rfl rfl ?_
  obtain ⟨g1, h⟩ := jg_s h
  refine j_iald (pc' := 207) hC dX6_digest_206 rfl gm1 g1 ?_
  refine j_icmp_ge (tgt := 232) (pc' := 210) hC dX6_digest_207 (by decide) rfl (fun c2 => ?_) (fun c2 => ?_)
  · have h := jit_t c2 h
    obtain ⟨q0, q1⟩ := jinj2 h
    subst q0
    subst q1
    refine j_sub [0, 1, 2] rfl ?_
    exact hK
  · have h := jit_f c2 h
    refine j_aload_n 0 (pc' := 211) hC dX6_digest_210 rfl rfl ?_
    refine j_aload_n 0 (pc' := 212) hC dX6_digest_211 rfl rfl ?_
    refine j_getr' (o2 := 2) (pc' := 215) hC dX6_digest_212 rfl fi_X6_13 gm0 rfl ?_
    refine j_bipush (v := 40) (pc' := 217) hC dX6_digest_215 rfl rfl ?_
    refine j_iload_n 1 (pc' := 218) hC dX6_digest_217 rfl rfl ?_
    refine j_imul (pc' := 219) hC dX6_digest_218 rfl ?_
    refine j_iload_n 2 (pc' := 220) hC dX6_digest_219 rfl rfl ?_
    refine j_iadd (pc' := 221) hC dX6_digest_220 rfl ?_
    obtain ⟨g3, h⟩ := jg_s h
    refine j_iald (pc' := 222) hC dX6_digest_221 rfl gm2 g3 ?_
    refine j_i2l (pc' := 223) hC dX6_digest_222 rfl ?_
    obtain ⟨M4, hc5, h⟩ := jb1_s h
    refine j_callVv [.long (gi M 2 (((40 : Int32) * x1) + x2).toNatClampNeg).toInt64] (pc' := 226) hC dX6_digest_223 rfl (t_X6_mix _ _ hc5) gm0 vcl6 cv_X6_315 ⟨⟨Nat.le_of_ble_eq_true rfl, Nat.le_of_ble_eq_true rfl⟩, rfl, Nat.le_of_ble_eq_true rfl⟩ rfl rfl ?_
    obtain ⟨v6, ev6, h⟩ := jlet_s h
    refine j_iinc' 2 (c := 1) (pc' := 229) hC dX6_digest_226 rfl rfl rfl ev6 (by decide) rfl ?_
    refine j_goto (tgt := 200) (pc' := 0) hC dX6_digest_229 (by decide) ?_
    refine j_sub [1, 2, 0] rfl ?_
    exact ih _ _ _ _ _ h hK
theorem lp_X6_digest_L200 {Γ : jG} (hC : jOK Γ cX6_digest 3 RX6 (some .long) { frames := 3, cells := 0, slots := 0, locals := 68 }) {Q : State → Prop} : ∀ (n : Nat) (x1 : Int32) (x2 : Int32) (M : jM) (e2 : Int32) (Me : jM), f_X6_digest_L200 n x1 x2 M = some (e2, Me) → jJ Γ GM RM 232 [(0, .ref (jad Γ 0)), (1, .int x1), (2, .int e2)] [] Me Q → jJ Γ GM RM 200 [(0, .ref (jad Γ 0)), (1, .int x1), (2, .int x2)] [] M Q := by
  intro n
  induction n with
  | zero =>
    intro x1 x2 M e2 Me h hK
    exact jno h
  | succ n ih =>
    intro x1 x2 M e2 Me h hK
    exact lp_X6_digest_L200_b hC (f_X6_digest_L200 n) ih x1 x2 M e2 Me h hK
theorem lp_X6_digest_L181_b {Γ : jG} (hC : jOK Γ cX6_digest 3 RX6 (some .long) { frames := 3, cells := 0, slots := 0, locals := 68 }) {Q : State → Prop} (rec : Int32 → jM → Option (Int32 × jM)) (ih : ∀ (x1 : Int32) (M : jM) (e1 : Int32) (Me : jM), rec x1 M = some (e1, Me) → jJ Γ GM RM 238 [(0, .ref (jad Γ 0)), (1, .int e1)] [] Me Q → jJ Γ GM RM 181 [(0, .ref (jad Γ 0)), (1, .int x1)] [] M Q) (x1 : Int32) (M : jM) (e1 : Int32) (Me : jM) (h : f_X6_digest_L181_b rec x1 M = some (e1, Me)) (hK : jJ Γ GM RM 238 [(0, .ref (jad Γ 0)), (1, .int e1)] [] Me Q) : jJ Γ GM RM 181 [(0, .ref (jad Γ 0)), (1, .int x1)] [] M Q := by
  unfold f_X6_digest_L181_b at h
  refine j_iload_n 1 (pc' := 182) hC dX6_digest_181 rfl rfl ?_
  refine j_bipush (v := 6) (pc' := 184) hC dX6_digest_182 rfl rfl ?_
  refine j_icmp_ge (tgt := 238) (pc' := 187) hC dX6_digest_184 (by decide) rfl (fun c1 => ?_) (fun c1 => ?_)
  · have h := jit_t c1 h
    obtain ⟨q0, q1⟩ := jinj2 h
    subst q0
    subst q1
    refine j_sub [0, 1] rfl ?_
    exact hK
  · have h := jit_f c1 h
    refine j_aload_n 0 (pc' := 188) hC dX6_digest_187 rfl rfl ?_
    refine j_aload_n 0 (pc' := 189) hC dX6_digest_188 rfl rfl ?_
    refine j_getr' (o2 := 1) (pc' := 192) hC dX6_digest_189 rfl fi_X6_7 gm0 rfl ?_
    refine j_iload_n 1 (pc' := 193) hC dX6_digest_192 rfl rfl ?_
    obtain ⟨g2, h⟩ := jg_s h
    refine j_iald (pc' := 194) hC dX6_digest_193 rfl gm1 g2 ?_
    refine j_i2l (pc' := 195) hC dX6_digest_194 rfl ?_
    obtain ⟨M3, hc4, h⟩ := jb1_s h
    refine j_callVv [.long (gi M 1 x1.toNatClampNeg).toInt64] (pc' := 198) hC dX6_digest_195 rfl (t_X6_mix _ _ hc4) gm0 vcl6 cv_X6_315 ⟨⟨Nat.le_of_ble_eq_true rfl, Nat.le_of_ble_eq_true rfl⟩, rfl, Nat.le_of_ble_eq_true rfl⟩ rfl rfl ?_
    refine j_iconst (v := 0) (pc' := 199) hC dX6_digest_198 rfl rfl ?_
    refine j_istore_n (pc' := 200) hC dX6_digest_199 rfl rfl (by decide) rfl ?_
    refine j_sub [1, 2, 0] rfl ?_
    obtain ⟨v5, M6, hm7, h⟩ := jb2_s h
    refine lp_X6_digest_L200 hC  jfu x1 (0 : Int32) M3 v5 M6 hm7 ?_
    obtain ⟨v8, ev8, h⟩ := jlet_s h
    refine j_iinc' 1 (c := 1) (pc' := 235) hC dX6_digest_232 rfl rfl rfl ev8 (by decide) rfl ?_
    refine j_goto (tgt := 181) (pc' := 0) hC dX6_digest_235 (by decide) ?_
    refine j_sub [1, 0] rfl ?_
    exact ih _ _ _ _ h hK
theorem lp_X6_digest_L181 {Γ : jG} (hC : jOK Γ cX6_digest 3 RX6 (some .long) { frames := 3, cells := 0, slots := 0, locals := 68 }) {Q : State → Prop} : ∀ (n : Nat) (x1 : Int32) (M : jM) (e1 : Int32) (Me : jM), f_X6_digest_L181 n x1 M = some (e1, Me) → jJ Γ GM RM 238 [(0, .ref (jad Γ 0)), (1, .int e1)] [] Me Q → jJ Γ GM RM 181 [(0, .ref (jad Γ 0)), (1, .int x1)] [] M Q := by
  intro n
  induction n with
  | zero =>
    intro x1 M e1 Me h hK
    exact jno h
  | succ n ih =>
    intro x1 M e1 Me h hK
    exact lp_X6_digest_L181_b hC (f_X6_digest_L181 n) ih x1 M e1 Me h hK
theorem lp_X6_digest_L258_b {Γ : jG} (hC : jOK Γ cX6_digest 3 RX6 (some .long) { frames := 3, cells := 0, slots := 0, locals := 68 }) {Q : State → Prop} (rec : Int32 → Int32 → jM → Option (Int32 × jM)) (ih : ∀ (x1 : Int32) (x2 : Int32) (M : jM) (e2 : Int32) (Me : jM), rec x1 x2 M = some (e2, Me) → jJ Γ GM RM 290 [(0, .ref (jad Γ 0)), (1, .int x1), (2, .int e2)] [] Me Q → jJ Γ GM RM 258 [(0, .ref (jad Γ 0)), (1, .int x1), (2, .int x2)] [] M Q) (x1 : Int32) (x2 : Int32) (M : jM) (e2 : Int32) (Me : jM) (h : f_X6_digest_L258_b rec x1 x2 M = some (e2, Me)) (hK : jJ Γ GM RM 290 [(0, .ref (jad Γ 0)), (1, .int x1), (2, .int e2)] [] Me Q) : jJ Γ GM RM 258 [(0, .ref (jad Γ 0)), (1, .int x1), (2, .int x2)] [] M Q := by
  unfold f_X6_digest_L258_b at h
  refine j_iload_n 2 (pc' := 259) hC dX6_digest_258 rfl rfl ?_
  refine j_aload_n 0 (pc' := 260) hC dX6_digest_259 rfl rfl ?_
  refine j_getr' (o2 := 3) (pc' := 263) hC dX6_digest_260 rfl fi_X6_16 gm0 rfl ?_
  refine j_iload_n 1 (pc' := 264) hC dX6_digest_263 rfl rfl ?_
  obtain ⟨g1, h⟩ := jg_s h
  refine j_iald (pc' := 265) hC dX6_digest_264 rfl gm3 g1 ?_
  refine j_icmp_ge (tgt := 290) (pc' := 268) hC dX6_digest_265 (by decide) rfl (fun c2 => ?_) (fun c2 => ?_)
  · have h := jit_t c2 h
    obtain ⟨q0, q1⟩ := jinj2 h
    subst q0
    subst q1
    refine j_sub [0, 1, 2] rfl ?_
    exact hK
  · have h := jit_f c2 h
    refine j_aload_n 0 (pc' := 269) hC dX6_digest_268 rfl rfl ?_
    refine j_aload_n 0 (pc' := 270) hC dX6_digest_269 rfl rfl ?_
    refine j_getr' (o2 := 4) (pc' := 273) hC dX6_digest_270 rfl fi_X6_19 gm0 rfl ?_
    refine j_bipush (v := 80) (pc' := 275) hC dX6_digest_273 rfl rfl ?_
    refine j_iload_n 1 (pc' := 276) hC dX6_digest_275 rfl rfl ?_
    refine j_imul (pc' := 277) hC dX6_digest_276 rfl ?_
    refine j_iload_n 2 (pc' := 278) hC dX6_digest_277 rfl rfl ?_
    refine j_iadd (pc' := 279) hC dX6_digest_278 rfl ?_
    obtain ⟨g3, h⟩ := jg_s h
    refine j_iald (pc' := 280) hC dX6_digest_279 rfl gm4 g3 ?_
    refine j_i2l (pc' := 281) hC dX6_digest_280 rfl ?_
    obtain ⟨M4, hc5, h⟩ := jb1_s h
    refine j_callVv [.long (gi M 4 (((80 : Int32) * x1) + x2).toNatClampNeg).toInt64] (pc' := 284) hC dX6_digest_281 rfl (t_X6_mix _ _ hc5) gm0 vcl6 cv_X6_315 ⟨⟨Nat.le_of_ble_eq_true rfl, Nat.le_of_ble_eq_true rfl⟩, rfl, Nat.le_of_ble_eq_true rfl⟩ rfl rfl ?_
    obtain ⟨v6, ev6, h⟩ := jlet_s h
    refine j_iinc' 2 (c := 1) (pc' := 287) hC dX6_digest_284 rfl rfl rfl ev6 (by decide) rfl ?_
    refine j_goto (tgt := 258) (pc' := 0) hC dX6_digest_287 (by decide) ?_
    refine j_sub [1, 2, 0] rfl ?_
    exact ih _ _ _ _ _ h hK
theorem lp_X6_digest_L258 {Γ : jG} (hC : jOK Γ cX6_digest 3 RX6 (some .long) { frames := 3, cells := 0, slots := 0, locals := 68 }) {Q : State → Prop} : ∀ (n : Nat) (x1 : Int32) (x2 : Int32) (M : jM) (e2 : Int32) (Me : jM), f_X6_digest_L258 n x1 x2 M = some (e2, Me) → jJ Γ GM RM 290 [(0, .ref (jad Γ 0)), (1, .int x1), (2, .int e2)] [] Me Q → jJ Γ GM RM 258 [(0, .ref (jad Γ 0)), (1, .int x1), (2, .int x2)] [] M Q := by
  intro n
  induction n with
  | zero =>
    intro x1 x2 M e2 Me h hK
    exact jno h
  | succ n ih =>
    intro x1 x2 M e2 Me h hK
    exact lp_X6_digest_L258_b hC (f_X6_digest_L258 n) ih x1 x2 M e2 Me h hK
theorem lp_X6_digest_L240_b {Γ : jG} (hC : jOK Γ cX6_digest 3 RX6 (some .long) { frames := 3, cells := 0, slots := 0, locals := 68 }) {Q : State → Prop} (rec : Int32 → jM → Option (Int32 × jM)) (ih : ∀ (x1 : Int32) (M : jM) (e1 : Int32) (Me : jM), rec x1 M = some (e1, Me) → jJ Γ GM RM 296 [(0, .ref (jad Γ 0)), (1, .int e1)] [] Me Q → jJ Γ GM RM 240 [(0, .ref (jad Γ 0)), (1, .int x1)] [] M Q) (x1 : Int32) (M : jM) (e1 : Int32) (Me : jM) (h : f_X6_digest_L240_b rec x1 M = some (e1, Me)) (hK : jJ Γ GM RM 296 [(0, .ref (jad Γ 0)), (1, .int e1)] [] Me Q) : jJ Γ GM RM 240 [(0, .ref (jad Γ 0)), (1, .int x1)] [] M Q := by
  unfold f_X6_digest_L240_b at h
  refine j_iload_n 1 (pc' := 241) hC dX6_digest_240 rfl rfl ?_
  refine j_iconst (v := 4) (pc' := 242) hC dX6_digest_241 rfl rfl ?_
  refine j_icmp_ge (tgt := 296) (pc' := 245) hC dX6_digest_242 (by decide) rfl (fun c1 => ?_) (fun c1 => ?_)
  · have h := jit_t c1 h
    obtain ⟨q0, q1⟩ := jinj2 h
    subst q0
    subst q1
    refine j_sub [0, 1] rfl ?_
    exact hK
  · have h := jit_f c1 h
    refine j_aload_n 0 (pc' := 246) hC dX6_digest_245 rfl rfl ?_
    refine j_aload_n 0 (pc' := 247) hC dX6_digest_246 rfl rfl ?_
    refine j_getr' (o2 := 3) (pc' := 250) hC dX6_digest_247 rfl fi_X6_16 gm0 rfl ?_
    refine j_iload_n 1 (pc' := 251) hC dX6_digest_250 rfl rfl ?_
    obtain ⟨g2, h⟩ := jg_s h
    refine j_iald (pc' := 252) hC dX6_digest_251 rfl gm3 g2 ?_
    refine j_i2l (pc' := 253) hC dX6_digest_252 rfl ?_
    obtain ⟨M3, hc4, h⟩ := jb1_s h
    refine j_callVv [.long (gi M 3 x1.toNatClampNeg).toInt64] (pc' := 256) hC dX6_digest_253 rfl (t_X6_mix _ _ hc4) gm0 vcl6 cv_X6_315 ⟨⟨Nat.le_of_ble_eq_true rfl, Nat.le_of_ble_eq_true rfl⟩, rfl, Nat.le_of_ble_eq_true rfl⟩ rfl rfl ?_
    refine j_iconst (v := 0) (pc' := 257) hC dX6_digest_256 rfl rfl ?_
    refine j_istore_n (pc' := 258) hC dX6_digest_257 rfl rfl (by decide) rfl ?_
    refine j_sub [1, 2, 0] rfl ?_
    obtain ⟨v5, M6, hm7, h⟩ := jb2_s h
    refine lp_X6_digest_L258 hC  jfu x1 (0 : Int32) M3 v5 M6 hm7 ?_
    obtain ⟨v8, ev8, h⟩ := jlet_s h
    refine j_iinc' 1 (c := 1) (pc' := 293) hC dX6_digest_290 rfl rfl rfl ev8 (by decide) rfl ?_
    refine j_goto (tgt := 240) (pc' := 0) hC dX6_digest_293 (by decide) ?_
    refine j_sub [1, 0] rfl ?_
    exact ih _ _ _ _ h hK
theorem lp_X6_digest_L240 {Γ : jG} (hC : jOK Γ cX6_digest 3 RX6 (some .long) { frames := 3, cells := 0, slots := 0, locals := 68 }) {Q : State → Prop} : ∀ (n : Nat) (x1 : Int32) (M : jM) (e1 : Int32) (Me : jM), f_X6_digest_L240 n x1 M = some (e1, Me) → jJ Γ GM RM 296 [(0, .ref (jad Γ 0)), (1, .int e1)] [] Me Q → jJ Γ GM RM 240 [(0, .ref (jad Γ 0)), (1, .int x1)] [] M Q := by
  intro n
  induction n with
  | zero =>
    intro x1 M e1 Me h hK
    exact jno h
  | succ n ih =>
    intro x1 M e1 Me h hK
    exact lp_X6_digest_L240_b hC (f_X6_digest_L240 n) ih x1 M e1 Me h hK
theorem t_X6_digest (l : Launch) (E : jE) {M : jM} {r : Int64} {M' : jM} (h : f_X6_digest M = some (r, M')) : jCl l yX6_digest cX6_digest 3 (some .long) 3 68 E RM GM (fun a _ => [.ref (a 0)]) M r M' := by
  refine jCl_of (own := RX6) (by decide) rfl (fun _ _ => Nat.le_of_ble_eq_true rfl) ?_
  intro Γ hC
  show jJ Γ GM RM 0 [(0, .ref (jad Γ 0))] [] M (jQl Γ RM GM r M')
  unfold f_X6_digest at h
  refine j_aload_n 0 (pc' := 1) hC dX6_digest_0 rfl rfl ?_
  refine j_ldc2 (pc' := 4) hC dX6_digest_1 rfl ck_X6_178 ?_
  obtain ⟨M1, eM1, h⟩ := jlet_s h
  refine j_putl' (pc' := 7) hC dX6_digest_4 rfl fp_X6_309 gm0 eM1 ?_
  refine j_iconst (v := 0) (pc' := 8) hC dX6_digest_7 rfl rfl ?_
  refine j_istore_n (pc' := 9) hC dX6_digest_8 rfl rfl (by decide) rfl ?_
  refine j_sub [1, 0] rfl ?_
  obtain ⟨v2, M3, hm4, h⟩ := jb2_s h
  refine lp_X6_digest_L9 hC  jfu (0 : Int32) M1 v2 M3 hm4 ?_
  refine j_aload_n 0 (pc' := 32) hC dX6_digest_31 rfl rfl ?_
  refine j_aload_n 0 (pc' := 33) hC dX6_digest_32 rfl rfl ?_
  refine j_getr' (o2 := 12) (pc' := 36) hC dX6_digest_33 rfl fi_X6_43 gm0 rfl ?_
  refine j_iconst (v := 0) (pc' := 37) hC dX6_digest_36 rfl rfl ?_
  refine j_iald (pc' := 38) hC dX6_digest_37 rfl gm12 (by decide) ?_
  refine j_i2l (pc' := 39) hC dX6_digest_38 rfl ?_
  obtain ⟨M5, hc6, h⟩ := jb1_s h
  refine j_callVv [.long (gi M3 12 (0 : Int32).toNatClampNeg).toInt64] (pc' := 42) hC dX6_digest_39 rfl (t_X6_mix _ _ hc6) gm0 vcl6 cv_X6_315 ⟨⟨Nat.le_of_ble_eq_true rfl, Nat.le_of_ble_eq_true rfl⟩, rfl, Nat.le_of_ble_eq_true rfl⟩ rfl rfl ?_
  refine j_iconst (v := 0) (pc' := 43) hC dX6_digest_42 rfl rfl ?_
  refine j_istore_n (pc' := 44) hC dX6_digest_43 rfl rfl (by decide) rfl ?_
  refine j_sub [1, 0] rfl ?_
  obtain ⟨v7, M8, hm9, h⟩ := jb2_s h
  refine lp_X6_digest_L44 hC  jfu (0 : Int32) M5 v7 M8 hm9 ?_
  refine j_iconst (v := 0) (pc' := 67) hC dX6_digest_66 rfl rfl ?_
  refine j_istore_n (pc' := 68) hC dX6_digest_67 rfl rfl (by decide) rfl ?_
  refine j_sub [1, 0] rfl ?_
  obtain ⟨v10, M11, hm12, h⟩ := jb2_s h
  refine lp_X6_digest_L68 hC  jfu (0 : Int32) M8 v10 M11 hm12 ?_
  refine j_iconst (v := 0) (pc' := 100) hC dX6_digest_99 rfl rfl ?_
  refine j_istore_n (pc' := 101) hC dX6_digest_100 rfl rfl (by decide) rfl ?_
  refine j_sub [1, 0] rfl ?_
  obtain ⟨v13, M14, hm15, h⟩ := jb2_s h
  refine lp_X6_digest_L101 hC  jfu (0 : Int32) M11 v13 M14 hm15 ?_
  refine j_iconst (v := 0) (pc' := 133) hC dX6_digest_132 rfl rfl ?_
  refine j_istore_n (pc' := 134) hC dX6_digest_133 rfl rfl (by decide) rfl ?_
  refine j_sub [1, 0] rfl ?_
  obtain ⟨v16, M17, hm18, h⟩ := jb2_s h
  refine lp_X6_digest_L134 hC  jfu (0 : Int32) M14 v16 M17 hm18 ?_
  refine j_iconst (v := 0) (pc' := 180) hC dX6_digest_179 rfl rfl ?_
  refine j_istore_n (pc' := 181) hC dX6_digest_180 rfl rfl (by decide) rfl ?_
  refine j_sub [1, 0] rfl ?_
  obtain ⟨v19, M20, hm21, h⟩ := jb2_s h
  refine lp_X6_digest_L181 hC  jfu (0 : Int32) M17 v19 M20 hm21 ?_
  refine j_iconst (v := 0) (pc' := 239) hC dX6_digest_238 rfl rfl ?_
  refine j_istore_n (pc' := 240) hC dX6_digest_239 rfl rfl (by decide) rfl ?_
  refine j_sub [1, 0] rfl ?_
  obtain ⟨v22, M23, hm24, h⟩ := jb2_s h
  refine lp_X6_digest_L240 hC  jfu (0 : Int32) M20 v22 M23 hm24 ?_
  refine j_aload_n 0 (pc' := 297) hC dX6_digest_296 rfl rfl ?_
  refine j_getl' (pc' := 300) hC dX6_digest_297 rfl fi_X6_309 gm0 ?_
  obtain ⟨q0, q1⟩ := jinj2 h
  subst q0
  subst q1
  exact j_lret hC dX6_digest_300
