set_option maxRecDepth 100000 in
theorem ko_X4_3 : Cond.methodLink RX4 3 objectInit ∈ jtb ∧ Cond.instanceMethod objectInit ∈ jtb ∧ Cond.code objectInit ⟨#[0xb1]⟩ 1 none ∈ jtb := ⟨jtb_at 101 (by decide +kernel) (by decide +kernel), jtb_at 94 (by decide +kernel) (by decide +kernel), jtb_at 95 (by rfl) (by rfl)⟩
theorem ac_int : Cond.arrayClass .int ∈ jtb := jtb_at 116 (by decide +kernel) (by decide +kernel)
theorem kl_X4_15 : Cond.classLink RX4 15 "[[I" ∈ jtb := jtb_at 102 (by decide +kernel) (by decide +kernel)
set_option maxRecDepth 100000 in
theorem ko_X2_3 : Cond.methodLink RX2 3 objectInit ∈ jtb ∧ Cond.instanceMethod objectInit ∈ jtb ∧ Cond.code objectInit ⟨#[0xb1]⟩ 1 none ∈ jtb := ⟨jtb_at 128 (by decide +kernel) (by decide +kernel), jtb_at 94 (by decide +kernel) (by decide +kernel), jtb_at 95 (by rfl) (by rfl)⟩
theorem ac_long : Cond.arrayClass .long ∈ jtb := jtb_at 180 (by decide +kernel) (by decide +kernel)
set_option maxRecDepth 100000 in
theorem ko_X3_3 : Cond.methodLink RX3 3 objectInit ∈ jtb ∧ Cond.instanceMethod objectInit ∈ jtb ∧ Cond.code objectInit ⟨#[0xb1]⟩ 1 none ∈ jtb := ⟨jtb_at 122 (by decide +kernel) (by decide +kernel), jtb_at 94 (by decide +kernel) (by decide +kernel), jtb_at 95 (by rfl) (by rfl)⟩
theorem kn_X3_9 : Cond.classLink RX3 9 RX2 ∈ jtb ∧ Cond.instantiable RX2 11 ∈ jtb ∧ Cond.initialized RX2 ∈ jtb := ⟨jtb_at 123 (by decide +kernel) (by decide +kernel), jtb_at 124 (by decide +kernel) (by decide +kernel), jtb_at 81 (by decide +kernel) (by decide +kernel)⟩
theorem df2 : ∀ j, j < 11 → defaultValue (tyX2 j) = vp_V [.int 0, .int 0, .null, .null, .null, .null, .null, .null, .null, .null, .null] j := by
  intro j hj
  rcases (show j = 0 ∨ j = 1 ∨ j = 2 ∨ j = 3 ∨ j = 4 ∨ j = 5 ∨ j = 6 ∨ j = 7 ∨ j = 8 ∨ j = 9 ∨ j = 10 by omega) with rfl | rfl | rfl | rfl | rfl | rfl | rfl | rfl | rfl | rfl | rfl <;> rfl
set_option maxRecDepth 100000 in
theorem kc_X2_init : Cond.code yX2_init cX2_init 1 (none) ∈ jtb := jtb_at 127 (by rfl) (by rfl)
theorem ki_X3_11 : Cond.methodLinkNest RX3 11 yX2_init "HoursByPost" ∈ jnw ∧ Cond.instanceMethod yX2_init ∈ jtb ∧ Cond.code yX2_init cX2_init 1 none ∈ jtb ∧ Cond.initialized yX2_init.cls ∈ jtb ∧ yX2_init.name = "<init>" ∧ jdesc yX2_init 0 := ⟨by decide +kernel, jtb_at 126 (by decide +kernel) (by decide +kernel), kc_X2_init, jtb_at 81 (by decide +kernel) (by decide +kernel), rfl, by decide, by decide, by decide +kernel⟩
set_option maxRecDepth 100000 in
theorem ko_X0_3 : Cond.methodLink RX0 3 objectInit ∈ jtb ∧ Cond.instanceMethod objectInit ∈ jtb ∧ Cond.code objectInit ⟨#[0xb1]⟩ 1 none ∈ jtb := ⟨jtb_at 202 (by decide +kernel) (by decide +kernel), jtb_at 94 (by decide +kernel) (by decide +kernel), jtb_at 95 (by rfl) (by rfl)⟩
set_option maxRecDepth 100000 in
theorem ko_X1_3 : Cond.methodLink RX1 3 objectInit ∈ jtb ∧ Cond.instanceMethod objectInit ∈ jtb ∧ Cond.code objectInit ⟨#[0xb1]⟩ 1 none ∈ jtb := ⟨jtb_at 261 (by decide +kernel) (by decide +kernel), jtb_at 94 (by decide +kernel) (by decide +kernel), jtb_at 95 (by rfl) (by rfl)⟩
set_option maxRecDepth 100000 in
theorem ko_X5_3 : Cond.methodLink RX5 3 objectInit ∈ jtb ∧ Cond.instanceMethod objectInit ∈ jtb ∧ Cond.code objectInit ⟨#[0xb1]⟩ 1 none ∈ jtb := ⟨jtb_at 93 (by decide +kernel) (by decide +kernel), jtb_at 94 (by decide +kernel) (by decide +kernel), jtb_at 95 (by rfl) (by rfl)⟩
theorem kn_X5_9 : Cond.classLink RX5 9 RX4 ∈ jtb ∧ Cond.instantiable RX4 2 ∈ jtb ∧ Cond.initialized RX4 ∈ jtb := ⟨jtb_at 96 (by decide +kernel) (by decide +kernel), jtb_at 97 (by decide +kernel) (by decide +kernel), jtb_at 78 (by decide +kernel) (by decide +kernel)⟩
theorem df4 : ∀ j, j < 2 → defaultValue (tyX4 j) = vp_V [.null, .null] j := by
  intro j hj
  rcases (show j = 0 ∨ j = 1 by omega) with rfl | rfl <;> rfl
set_option maxRecDepth 100000 in
theorem kc_X4_init : Cond.code yX4_init cX4_init 3 (none) ∈ jtb := jtb_at 100 (by rfl) (by rfl)
theorem ki_X5_11 : Cond.methodLink RX5 11 yX4_init ∈ jtb ∧ Cond.instanceMethod yX4_init ∈ jtb ∧ Cond.code yX4_init cX4_init 3 none ∈ jtb ∧ Cond.initialized yX4_init.cls ∈ jtb ∧ yX4_init.name = "<init>" ∧ jdesc yX4_init 2 := ⟨jtb_at 98 (by decide +kernel) (by decide +kernel), jtb_at 99 (by decide +kernel) (by decide +kernel), kc_X4_init, jtb_at 78 (by decide +kernel) (by decide +kernel), rfl, by decide, by decide, by decide +kernel⟩
theorem kn_X5_21 : Cond.classLink RX5 21 RX3 ∈ jtb ∧ Cond.instantiable RX3 4 ∈ jtb ∧ Cond.initialized RX3 ∈ jtb := ⟨jtb_at 117 (by decide +kernel) (by decide +kernel), jtb_at 118 (by decide +kernel) (by decide +kernel), jtb_at 80 (by decide +kernel) (by decide +kernel)⟩
theorem df3 : ∀ j, j < 4 → defaultValue (tyX3 j) = vp_V [.null, .null, .int 0, .int 0] j := by
  intro j hj
  rcases (show j = 0 ∨ j = 1 ∨ j = 2 ∨ j = 3 by omega) with rfl | rfl | rfl | rfl <;> rfl
set_option maxRecDepth 100000 in
theorem kc_X3_init : Cond.code yX3_init cX3_init 1 (none) ∈ jtb := jtb_at 121 (by rfl) (by rfl)
theorem ki_X5_23 : Cond.methodLinkNest RX5 23 yX3_init "HoursByPost" ∈ jnw ∧ Cond.instanceMethod yX3_init ∈ jtb ∧ Cond.code yX3_init cX3_init 1 none ∈ jtb ∧ Cond.initialized yX3_init.cls ∈ jtb ∧ yX3_init.name = "<init>" ∧ jdesc yX3_init 0 := ⟨by decide +kernel, jtb_at 120 (by decide +kernel) (by decide +kernel), kc_X3_init, jtb_at 80 (by decide +kernel) (by decide +kernel), rfl, by decide, by decide, by decide +kernel⟩
theorem kn_X5_28 : Cond.classLink RX5 28 RX2 ∈ jtb ∧ Cond.instantiable RX2 11 ∈ jtb ∧ Cond.initialized RX2 ∈ jtb := ⟨jtb_at 195 (by decide +kernel) (by decide +kernel), jtb_at 124 (by decide +kernel) (by decide +kernel), jtb_at 81 (by decide +kernel) (by decide +kernel)⟩
theorem ki_X5_30 : Cond.methodLinkNest RX5 30 yX2_init "HoursByPost" ∈ jnw ∧ Cond.instanceMethod yX2_init ∈ jtb ∧ Cond.code yX2_init cX2_init 1 none ∈ jtb ∧ Cond.initialized yX2_init.cls ∈ jtb ∧ yX2_init.name = "<init>" ∧ jdesc yX2_init 0 := ⟨by decide +kernel, jtb_at 126 (by decide +kernel) (by decide +kernel), kc_X2_init, jtb_at 81 (by decide +kernel) (by decide +kernel), rfl, by decide, by decide, by decide +kernel⟩
theorem kn_X5_35 : Cond.classLink RX5 35 RX0 ∈ jtb ∧ Cond.instantiable RX0 12 ∈ jtb ∧ Cond.initialized RX0 ∈ jtb := ⟨jtb_at 197 (by decide +kernel) (by decide +kernel), jtb_at 198 (by decide +kernel) (by decide +kernel), jtb_at 82 (by decide +kernel) (by decide +kernel)⟩
theorem df0 : ∀ j, j < 12 → defaultValue (tyX0 j) = vp_V [.null, .null, .null, .null, .null, .null, .int 0, .int 0, .int 0, .int 0, .int 0, .int 0] j := by
  intro j hj
  rcases (show j = 0 ∨ j = 1 ∨ j = 2 ∨ j = 3 ∨ j = 4 ∨ j = 5 ∨ j = 6 ∨ j = 7 ∨ j = 8 ∨ j = 9 ∨ j = 10 ∨ j = 11 by omega) with rfl | rfl | rfl | rfl | rfl | rfl | rfl | rfl | rfl | rfl | rfl | rfl <;> rfl
set_option maxRecDepth 100000 in
theorem kc_X0_init : Cond.code yX0_init cX0_init 2 (none) ∈ jtb := jtb_at 201 (by rfl) (by rfl)
theorem ki_X5_37 : Cond.methodLink RX5 37 yX0_init ∈ jtb ∧ Cond.instanceMethod yX0_init ∈ jtb ∧ Cond.code yX0_init cX0_init 2 none ∈ jtb ∧ Cond.initialized yX0_init.cls ∈ jtb ∧ yX0_init.name = "<init>" ∧ jdesc yX0_init 1 := ⟨jtb_at 199 (by decide +kernel) (by decide +kernel), jtb_at 200 (by decide +kernel) (by decide +kernel), kc_X0_init, jtb_at 82 (by decide +kernel) (by decide +kernel), rfl, by decide, by decide, by decide +kernel⟩
theorem kl_X5_35 : Cond.classLink RX5 35 "HoursByPost$Course" ∈ jtb := jtb_at 197 (by decide +kernel) (by decide +kernel)
theorem ac_boolean : Cond.arrayClass .boolean ∈ jtb := jtb_at 285 (by decide +kernel) (by decide +kernel)
theorem kn_X5_52 : Cond.classLink RX5 52 RX1 ∈ jtb ∧ Cond.instantiable RX1 7 ∈ jtb ∧ Cond.initialized RX1 ∈ jtb := ⟨jtb_at 256 (by decide +kernel) (by decide +kernel), jtb_at 257 (by decide +kernel) (by decide +kernel), jtb_at 84 (by decide +kernel) (by decide +kernel)⟩
theorem df1 : ∀ j, j < 7 → defaultValue (tyX1 j) = vp_V [.null, .null, .null, .int 0, .int 0, .int 0, .int 0] j := by
  intro j hj
  rcases (show j = 0 ∨ j = 1 ∨ j = 2 ∨ j = 3 ∨ j = 4 ∨ j = 5 ∨ j = 6 by omega) with rfl | rfl | rfl | rfl | rfl | rfl | rfl <;> rfl
set_option maxRecDepth 100000 in
theorem kc_X1_init : Cond.code yX1_init cX1_init 2 (none) ∈ jtb := jtb_at 260 (by rfl) (by rfl)
theorem ki_X5_54 : Cond.methodLink RX5 54 yX1_init ∈ jtb ∧ Cond.instanceMethod yX1_init ∈ jtb ∧ Cond.code yX1_init cX1_init 2 none ∈ jtb ∧ Cond.initialized yX1_init.cls ∈ jtb ∧ yX1_init.name = "<init>" ∧ jdesc yX1_init 1 := ⟨jtb_at 258 (by decide +kernel) (by decide +kernel), jtb_at 259 (by decide +kernel) (by decide +kernel), kc_X1_init, jtb_at 84 (by decide +kernel) (by decide +kernel), rfl, by decide, by decide, by decide +kernel⟩
set_option maxRecDepth 100000 in
theorem ko_X6_1 : Cond.methodLink RX6 1 objectInit ∈ jtb ∧ Cond.instanceMethod objectInit ∈ jtb ∧ Cond.code objectInit ⟨#[0xb1]⟩ 1 none ∈ jtb := ⟨jtb_at 920 (by decide +kernel) (by decide +kernel), jtb_at 94 (by decide +kernel) (by decide +kernel), jtb_at 95 (by rfl) (by rfl)⟩
