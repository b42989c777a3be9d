set_option maxRecDepth 100000 in
theorem ko_X4_3 : Cond.methodLink RX4 3 objectInit ∈ jtb ∧ Cond.instanceMethod objectInit ∈ jtb ∧ Cond.code objectInit ⟨#[0xb1]⟩ 1 none ∈ jtb := ⟨jtb_at 101 (by decide +kernel) (by decide +kernel), jtb_at 94 (by decide +kernel) (by decide +kernel), jtb_at 95 (by rfl) (by rfl)⟩
theorem ac_int : Cond.arrayClass .int ∈ jtb := jtb_at 116 (by decide +kernel) (by decide +kernel)
theorem kl_X4_15 : Cond.classLink RX4 15 "[[I" ∈ jtb := jtb_at 102 (by decide +kernel) (by decide +kernel)
set_option maxRecDepth 100000 in
theorem ko_X2_3 : Cond.methodLink RX2 3 objectInit ∈ jtb ∧ Cond.instanceMethod objectInit ∈ jtb ∧ Cond.code objectInit ⟨#[0xb1]⟩ 1 none ∈ jtb := ⟨jtb_at 128 (by decide +kernel) (by decide +kernel), jtb_at 94 (by decide +kernel) (by decide +kernel), jtb_at 95 (by rfl) (by rfl)⟩
theorem ac_long : Cond.arrayClass .long ∈ jtb := jtb_at 180 (by decide +kernel) (by decide +kernel)
set_option maxRecDepth 100000 in
theorem ko_X3_3 : Cond.methodLink RX3 3 objectInit ∈ jtb ∧ Cond.instanceMethod objectInit ∈ jtb ∧ Cond.code objectInit ⟨#[0xb1]⟩ 1 none ∈ jtb := ⟨jtb_at 122 (by decide +kernel) (by decide +kernel), jtb_at 94 (by decide +kernel) (by decide +kernel), jtb_at 95 (by rfl) (by rfl)⟩
theorem kn_X3_9 : Cond.classLink RX3 9 RX2 ∈ jtb ∧ Cond.instantiable RX2 11 ∈ jtb ∧ Cond.initialized RX2 ∈ jtb := ⟨jtb_at 123 (by decide +kernel) (by decide +kernel), jtb_at 124 (by decide +kernel) (by decide +kernel), jtb_at 81 (by decide +kernel) (by decide +kernel)⟩
theorem df2 : ∀ j, j < 11 → defaultValue (tyX2 j) = vp_V [.int 0, .int 0, .null, .null, .null, .null, .null, .null, .null, .null, .null] j := by
  intro j hj
  rcases (show j = 0 ∨ j = 1 ∨ j = 2 ∨ j = 3 ∨ j = 4 ∨ j = 5 ∨ j = 6 ∨ j = 7 ∨ j = 8 ∨ j = 9 ∨ j = 10 by omega) with rfl | rfl | rfl | rfl | rfl | rfl | rfl | rfl | rfl | rfl | rfl <;> rfl
set_option maxRecDepth 100000 in
theorem kc_X2_init : Cond.code yX2_init cX2_init 1 (none) ∈ jtb := jtb_at 127 (by rfl) (by rfl)
theorem ki_X3_11 : Cond.methodLinkNest RX3 11 yX2_init "HoursByPost" ∈ jnw ∧ Cond.instanceMethod yX2_init ∈ jtb ∧ Cond.code yX2_init cX2_init 1 none ∈ jtb ∧ Cond.initialized yX2_init.cls ∈ jtb ∧ yX2_init.name = "<init>" ∧ jdesc yX2_init 0 := ⟨by decide +kernel, jtb_at 126 (by decide +kernel) (by decide +kernel), kc_X2_init, jtb_at 81 (by decide +kernel) (by decide +kernel), rfl, by decide, by decide, by decide +kernel⟩
set_option maxRecDepth 100000 in
theorem ko_X0_3 : Cond.methodLink RX0 3 objectInit ∈ jtb ∧ Cond.instanceMethod objectInit ∈ jtb ∧ Cond.code objectInit ⟨#[0xb1]⟩ 1 none ∈ jtb := ⟨jtb_at 202 (by decide +kernel) (by decide +kernel), jtb_at 94 (by decide +kernel) (by decide +kernel), jtb_at 95 (by rfl) (by rfl)⟩
set_option maxRecDepth 100000 in
theorem ko_X1_3 : Cond.methodLink RX1 3 objectInit ∈ jtb ∧ Cond.instanceMethod objectInit ∈ jtb ∧ Cond.code objectInit ⟨#[0xb1]⟩ 1 none ∈ jtb := ⟨jtb_at 261 (by decide +kernel) (by decide +kernel), jtb_at 94 (by decide +kernel) (by decide +kernel), jtb_at 95 (by rfl) (by rfl)⟩
