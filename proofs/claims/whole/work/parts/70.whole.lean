theorem kn_L_7 : Cond.classLink RL 7 RX5 ∈ jtb ∧ Cond.instantiable RX5 13 ∈ jtb ∧ Cond.initialized RX5 ∈ jtb := ⟨jtb_at 88 (by decide +kernel) (by decide +kernel), jtb_at 89 (by decide +kernel) (by decide +kernel), jtb_at 77 (by decide +kernel) (by decide +kernel)⟩
theorem kn_L_10 : Cond.classLink RL 10 RX6 ∈ jtb ∧ Cond.instantiable RX6 33 ∈ jtb ∧ Cond.initialized RX6 ∈ jtb := ⟨jtb_at 915 (by decide +kernel) (by decide +kernel), jtb_at 916 (by decide +kernel) (by decide +kernel), jtb_at 85 (by decide +kernel) (by decide +kernel)⟩
set_option maxRecDepth 100000 in
theorem kc_X5_init : Cond.code yX5_init cX5_init 1 none ∈ jtb := jtb_at 92 (by rfl) (by rfl)
set_option maxRecDepth 100000 in
theorem kc_X6_init : Cond.code yX6_init cX6_init 2 none ∈ jtb := jtb_at 919 (by rfl) (by rfl)
theorem ki_L_9 : Cond.methodLink RL 9 yX5_init ∈ jtb ∧ Cond.instanceMethod yX5_init ∈ jtb ∧ Cond.code yX5_init cX5_init 1 none ∈ jtb ∧ Cond.initialized yX5_init.cls ∈ jtb ∧ yX5_init.name = "<init>" ∧ jdesc yX5_init 0 := ⟨jtb_at 90 (by decide +kernel) (by decide +kernel), jtb_at 91 (by decide +kernel) (by decide +kernel), kc_X5_init, jtb_at 77 (by decide +kernel) (by decide +kernel), rfl, by decide, by decide, by decide +kernel⟩
theorem ki_L_12 : Cond.methodLink RL 12 yX6_init ∈ jtb ∧ Cond.instanceMethod yX6_init ∈ jtb ∧ Cond.code yX6_init cX6_init 2 none ∈ jtb ∧ Cond.initialized yX6_init.cls ∈ jtb ∧ yX6_init.name = "<init>" ∧ jdesc yX6_init 0 := ⟨jtb_at 917 (by decide +kernel) (by decide +kernel), jtb_at 918 (by decide +kernel) (by decide +kernel), kc_X6_init, jtb_at 85 (by decide +kernel) (by decide +kernel), rfl, by decide, by decide, by decide +kernel⟩
theorem dg5 : ∀ j, j < 13 → defaultValue (tyX5 j) = vp_V [.null, .null, .null, .null, .null, .null, .null, .null, .null, .int 0, .int 0, .long 0, .long 0] j := by
  intro j hj
  rcases (show j = 0 ∨ j = 1 ∨ j = 2 ∨ j = 3 ∨ j = 4 ∨ j = 5 ∨ j = 6 ∨ j = 7 ∨ j = 8 ∨ j = 9 ∨ j = 10 ∨ j = 11 ∨ j = 12 by omega) with rfl | rfl | rfl | rfl | rfl | rfl | rfl | rfl | rfl | rfl | rfl | rfl | rfl <;> rfl
theorem dg6 : ∀ j, j < 33 → defaultValue (tyX6 j) = vp_V [.null, .null, .null, .null, .null, .null, .null, .int 0, .null, .null, .null, .int 0, .null, .null, .null, .int 0, .int 0, .long 0, .long 0, .int 0, .null, .null, .int 0, .null, .int 0, .null, .int 0, .null, .null, .null, .null, .null, .long 0] j := by
  intro j hj
  rcases (show j = 0 ∨ j = 1 ∨ j = 2 ∨ j = 3 ∨ j = 4 ∨ j = 5 ∨ j = 6 ∨ j = 7 ∨ j = 8 ∨ j = 9 ∨ j = 10 ∨ j = 11 ∨ j = 12 ∨ j = 13 ∨ j = 14 ∨ j = 15 ∨ j = 16 ∨ j = 17 ∨ j = 18 ∨ j = 19 ∨ j = 20 ∨ j = 21 ∨ j = 22 ∨ j = 23 ∨ j = 24 ∨ j = 25 ∨ j = 26 ∨ j = 27 ∨ j = 28 ∨ j = 29 ∨ j = 30 ∨ j = 31 ∨ j = 32 by omega) with rfl | rfl | rfl | rfl | rfl | rfl | rfl | rfl | rfl | rfl | rfl | rfl | rfl | rfl | rfl | rfl | rfl | rfl | rfl | rfl | rfl | rfl | rfl | rfl | rfl | rfl | rfl | rfl | rfl | rfl | rfl | rfl | rfl <;> rfl
theorem kstart_K {args : Array Value} {s : State} (hts : ∀ w ∈ lw_tbl, w.before args s = true) : ∃ (D : va_G) (cy : Nat → ClassId), va_K D vwCl (jtys cy) s ∧ jAO s := by
  obtain ⟨c0, i0, hk0⟩ := u_known (C := RX0) (T := TX0) (N := 12) (n := 12) hts inX0 (hts (.instantiable RX0 12) (List.mem_of_getElem? (i := 198) (by decide +kernel)))
  obtain ⟨c1, i1, hk1⟩ := u_known (C := RX1) (T := TX1) (N := 7) (n := 7) hts inX1 (hts (.instantiable RX1 7) (List.mem_of_getElem? (i := 257) (by decide +kernel)))
  obtain ⟨c2, i2, hk2⟩ := u_known (C := RX2) (T := TX2) (N := 11) (n := 11) hts inX2 (hts (.instantiable RX2 11) (List.mem_of_getElem? (i := 124) (by decide +kernel)))
  obtain ⟨c3, i3, hk3⟩ := u_known (C := RX3) (T := TX3) (N := 4) (n := 4) hts inX3 (hts (.instantiable RX3 4) (List.mem_of_getElem? (i := 118) (by decide +kernel)))
  obtain ⟨c4, i4, hk4⟩ := u_known (C := RX4) (T := TX4) (N := 2) (n := 2) hts inX4 (hts (.instantiable RX4 2) (List.mem_of_getElem? (i := 97) (by decide +kernel)))
  obtain ⟨c5, i5, hk5⟩ := u_known (C := RX5) (T := TX5) (N := 13) (n := 13) hts inX5 (hts (.instantiable RX5 13) (List.mem_of_getElem? (i := 89) (by decide +kernel)))
  obtain ⟨c6, i6, hk6⟩ := u_known (C := RX6) (T := TX6) (N := 33) (n := 33) hts inX6 (hts (.instantiable RX6 33) (List.mem_of_getElem? (i := 916) (by decide +kernel)))
  obtain ⟨y0, z0, p0, f0, g0, n0⟩ := Cond.arrayClass_spec (hts (.arrayClass .int) (List.mem_of_getElem? (i := 116) (by decide +kernel)))
  obtain ⟨y1, z1, p1, f1, g1, n1⟩ := Cond.arrayClass_spec (hts (.arrayClass .long) (List.mem_of_getElem? (i := 180) (by decide +kernel)))
  obtain ⟨y2, z2, p2, f2, g2, n2⟩ := Cond.arrayClass_spec (hts (.arrayClass .boolean) (List.mem_of_getElem? (i := 285) (by decide +kernel)))
  have ho3 := hts (.arrayOver (.object "HoursByPost$Course")) (List.mem_of_getElem? (i := 255) (by decide +kernel))
  have ho4 := hts (.arrayOver (.array .int)) (List.mem_of_getElem? (i := 103) (by decide +kernel))
  obtain ⟨p3, y3, z3, q3, -, g3, n3, f3⟩ := Cond.arrayOver_spec ho3
  obtain ⟨p4, y4, z4, q4, g4, n4, f4⟩ := Cond.arrayOver_specA ho4
  refine ⟨(fun k => if k = 0 then c0 else if k = 1 then c1 else if k = 2 then c2 else if k = 3 then c3 else if k = 4 then c4 else if k = 5 then c5 else c6, fun k => if k = 0 then i0 else if k = 1 then i1 else if k = 2 then i2 else if k = 3 then i3 else if k = 4 then i4 else if k = 5 then i5 else i6), fun k => if k = 0 then y0 else if k = 1 then y1 else if k = 2 then y2 else if k = 3 then y3 else y4, ⟨?_, ?_⟩, ho3, ho4⟩
  · intro k q hq
    match k, hq with
    | 0, hq => cases hq; exact hk0
    | 1, hq => cases hq; exact hk1
    | 2, hq => cases hq; exact hk2
    | 3, hq => cases hq; exact hk3
    | 4, hq => cases hq; exact hk4
    | 5, hq => cases hq; exact hk5
    | 6, hq => cases hq; exact hk6
    | k + 7, hq => simp [vwCl] at hq
  · intro k q hq
    match k, hq with
    | 0, hq => cases hq; exact ⟨fun n z => ⟨fun k h => (by cases h), z0, g0, p0, n0⟩, f0⟩
    | 1, hq => cases hq; exact ⟨fun n z => ⟨fun k h => (by cases h), z1, g1, p1, n1⟩, f1⟩
    | 2, hq => cases hq; exact ⟨fun n z => ⟨fun k h => (by cases h), z2, g2, p2, n2⟩, f2⟩
    | 3, hq => cases hq; exact ⟨fun n z => ⟨fun k h => (by cases h), z3, g3, p3, n3⟩, ⟨z3, p3, g3, n3, q3, f3⟩⟩
    | 4, hq => cases hq; exact ⟨fun n z => ⟨fun k h => (by cases h), z4, g4, p4, n4⟩, f4⟩
    | k + 5, hq => simp [jtys] at hq
set_option maxHeartbeats 4000000 in
theorem kstart_Z {args : Array Value} {s : State} (hts : ∀ w ∈ lw_tbl, w.before args s = true) (hgv : (Jvm.Cond.and given_1 narrow_1).before args s = true) : ∃ st : Nat → Nat, jZ st (kA s) s s.heap := by
  have hs := flat_of_before _ hgv
  have hA : ∀ a : Nat, a < s.heap.size → ¬ kA s a := fun a h => Nat.not_le.mpr h
  have hl0 : (Term.length (Term.static "HoursByPost" "FIRST_ROUTES" "[I")).eval args s none [] s = some (.int (Int32.ofNat 3)) := va_eqt (hs (.eq (.length (Term.static "HoursByPost" "FIRST_ROUTES" "[I")) (.int 3)) (by decide +kernel))
  have he0 : ∀ k : Nat, k < 3 → (Term.elem (Term.static "HoursByPost" "FIRST_ROUTES" "[I") (.int (Int32.ofNat k))).eval args s none [] s = some (jsv 0 k) := by
    intro k hk
    rcases (show k = 0 ∨ k = 1 ∨ k = 2 by omega) with rfl | rfl | rfl
    · exact va_eqt (hs (.eq (.elem (Term.static "HoursByPost" "FIRST_ROUTES" "[I") (.int 0)) (.int 1)) (by decide +kernel))
    · exact va_eqt (hs (.eq (.elem (Term.static "HoursByPost" "FIRST_ROUTES" "[I") (.int 1)) (.int 2)) (by decide +kernel))
    · exact va_eqt (hs (.eq (.elem (Term.static "HoursByPost" "FIRST_ROUTES" "[I") (.int 2)) (.int 4)) (by decide +kernel))
  obtain ⟨t0, ev0, hT0⟩ := va_Tof (ty := .int) (A := kA s) (by decide) (hs (.arrayOf (Term.static "HoursByPost" "FIRST_ROUTES" "[I") .int) (by decide +kernel)) hl0 he0 hA
  have hZ0 := va_Zref (A := kA s) (hts (.laysStatic "HoursByPost" "FIRST_ROUTES" "[I") (List.mem_of_getElem? (i := 204) (by decide +kernel))) (hts (.initialized "HoursByPost") (List.mem_of_getElem? (i := 77) (by decide +kernel))) ev0 hA
  have hl1 : (Term.length (Term.static "HoursByPost" "KIND_SIGNS" "[I")).eval args s none [] s = some (.int (Int32.ofNat 6)) := va_eqt (hs (.eq (.length (Term.static "HoursByPost" "KIND_SIGNS" "[I")) (.int 6)) (by decide +kernel))
  have he1 : ∀ k : Nat, k < 6 → (Term.elem (Term.static "HoursByPost" "KIND_SIGNS" "[I") (.int (Int32.ofNat k))).eval args s none [] s = some (jsv 1 k) := by
    intro k hk
    rcases (show k = 0 ∨ k = 1 ∨ k = 2 ∨ k = 3 ∨ k = 4 ∨ k = 5 by omega) with rfl | rfl | rfl | rfl | rfl | rfl
    · exact va_eqt (hs (.eq (.elem (Term.static "HoursByPost" "KIND_SIGNS" "[I") (.int 0)) (.int 100)) (by decide +kernel))
    · exact va_eqt (hs (.eq (.elem (Term.static "HoursByPost" "KIND_SIGNS" "[I") (.int 1)) (.int 109)) (by decide +kernel))
    · exact va_eqt (hs (.eq (.elem (Term.static "HoursByPost" "KIND_SIGNS" "[I") (.int 2)) (.int 115)) (by decide +kernel))
    · exact va_eqt (hs (.eq (.elem (Term.static "HoursByPost" "KIND_SIGNS" "[I") (.int 3)) (.int 108)) (by decide +kernel))
    · exact va_eqt (hs (.eq (.elem (Term.static "HoursByPost" "KIND_SIGNS" "[I") (.int 4)) (.int 102)) (by decide +kernel))
    · exact va_eqt (hs (.eq (.elem (Term.static "HoursByPost" "KIND_SIGNS" "[I") (.int 5)) (.int 112)) (by decide +kernel))
  obtain ⟨t1, ev1, hT1⟩ := va_Tof (ty := .int) (A := kA s) (by decide) (hs (.arrayOf (Term.static "HoursByPost" "KIND_SIGNS" "[I") .int) (by decide +kernel)) hl1 he1 hA
  have hZ1 := va_Zref (A := kA s) (hts (.laysStatic "HoursByPost" "KIND_SIGNS" "[I") (List.mem_of_getElem? (i := 443) (by decide +kernel))) (hts (.initialized "HoursByPost") (List.mem_of_getElem? (i := 77) (by decide +kernel))) ev1 hA
  have hl2 : (Term.length (Term.static "HoursByPost" "LIGHT_SIGNS" "[I")).eval args s none [] s = some (.int (Int32.ofNat 3)) := va_eqt (hs (.eq (.length (Term.static "HoursByPost" "LIGHT_SIGNS" "[I")) (.int 3)) (by decide +kernel))
  have he2 : ∀ k : Nat, k < 3 → (Term.elem (Term.static "HoursByPost" "LIGHT_SIGNS" "[I") (.int (Int32.ofNat k))).eval args s none [] s = some (jsv 2 k) := by
    intro k hk
    rcases (show k = 0 ∨ k = 1 ∨ k = 2 by omega) with rfl | rfl | rfl
    · exact va_eqt (hs (.eq (.elem (Term.static "HoursByPost" "LIGHT_SIGNS" "[I") (.int 0)) (.int 100)) (by decide +kernel))
    · exact va_eqt (hs (.eq (.elem (Term.static "HoursByPost" "LIGHT_SIGNS" "[I") (.int 1)) (.int 110)) (by decide +kernel))
    · exact va_eqt (hs (.eq (.elem (Term.static "HoursByPost" "LIGHT_SIGNS" "[I") (.int 2)) (.int 101)) (by decide +kernel))
  obtain ⟨t2, ev2, hT2⟩ := va_Tof (ty := .int) (A := kA s) (by decide) (hs (.arrayOf (Term.static "HoursByPost" "LIGHT_SIGNS" "[I") .int) (by decide +kernel)) hl2 he2 hA
  have hZ2 := va_Zref (A := kA s) (hts (.laysStatic "HoursByPost" "LIGHT_SIGNS" "[I") (List.mem_of_getElem? (i := 449) (by decide +kernel))) (hts (.initialized "HoursByPost") (List.mem_of_getElem? (i := 77) (by decide +kernel))) ev2 hA
  have hl3 : (Term.length (Term.static "HoursByPost" "SETS_OF" "[J")).eval args s none [] s = some (.int (Int32.ofNat 7)) := va_eqt (hs (.eq (.length (Term.static "HoursByPost" "SETS_OF" "[J")) (.int 7)) (by decide +kernel))
  have he3 : ∀ k : Nat, k < 7 → (Term.elem (Term.static "HoursByPost" "SETS_OF" "[J") (.int (Int32.ofNat k))).eval args s none [] s = some (jsv 3 k) := by
    intro k hk
    rcases (show k = 0 ∨ k = 1 ∨ k = 2 ∨ k = 3 ∨ k = 4 ∨ k = 5 ∨ k = 6 by omega) with rfl | rfl | rfl | rfl | rfl | rfl | rfl
    · exact va_eqtl (hs (.eq (.elem (Term.static "HoursByPost" "SETS_OF" "[J") (.int 0)) (.long (1))) (by decide +kernel))
    · exact va_eqtl (hs (.eq (.elem (Term.static "HoursByPost" "SETS_OF" "[J") (.int 1)) (.long (4295033110))) (by decide +kernel))
    · exact va_eqtl (hs (.eq (.elem (Term.static "HoursByPost" "SETS_OF" "[J") (.int 2)) (.long (282668995843688))) (by decide +kernel))
    · exact va_eqtl (hs (.eq (.elem (Term.static "HoursByPost" "SETS_OF" "[J") (.int 3)) (.long (78274679833913472))) (by decide +kernel))
    · exact va_eqtl (hs (.eq (.elem (Term.static "HoursByPost" "SETS_OF" "[J") (.int 4)) (.long (1614655367130677248))) (by decide +kernel))
    · exact va_eqtl (hs (.eq (.elem (Term.static "HoursByPost" "SETS_OF" "[J") (.int 5)) (.long (7530159316599308288))) (by decide +kernel))
    · exact va_eqtl (hs (.eq (.elem (Term.static "HoursByPost" "SETS_OF" "[J") (.int 6)) (.long (-9223372036854775808))) (by decide +kernel))
  obtain ⟨t3, ev3, hT3⟩ := va_Tof (ty := .long) (A := kA s) (by decide) (hs (.arrayOf (Term.static "HoursByPost" "SETS_OF" "[J") .long) (by decide +kernel)) hl3 he3 hA
  have hZ3 := va_Zref (A := kA s) (hts (.laysStatic "HoursByPost" "SETS_OF" "[J") (List.mem_of_getElem? (i := 751) (by decide +kernel))) (hts (.initialized "HoursByPost") (List.mem_of_getElem? (i := 77) (by decide +kernel))) ev3 hA
  have hl4 : (Term.length (Term.static "HoursByPost" "SETS_WITH" "[J")).eval args s none [] s = some (.int (Int32.ofNat 6)) := va_eqt (hs (.eq (.length (Term.static "HoursByPost" "SETS_WITH" "[J")) (.int 6)) (by decide +kernel))
  have he4 : ∀ k : Nat, k < 6 → (Term.elem (Term.static "HoursByPost" "SETS_WITH" "[J") (.int (Int32.ofNat k))).eval args s none [] s = some (jsv 4 k) := by
    intro k hk
    rcases (show k = 0 ∨ k = 1 ∨ k = 2 ∨ k = 3 ∨ k = 4 ∨ k = 5 by omega) with rfl | rfl | rfl | rfl | rfl | rfl
    · exact va_eqtl (hs (.eq (.elem (Term.static "HoursByPost" "SETS_WITH" "[J") (.int 0)) (.long (-6148914691236517206))) (by decide +kernel))
    · exact va_eqtl (hs (.eq (.elem (Term.static "HoursByPost" "SETS_WITH" "[J") (.int 1)) (.long (-3689348814741910324))) (by decide +kernel))
    · exact va_eqtl (hs (.eq (.elem (Term.static "HoursByPost" "SETS_WITH" "[J") (.int 2)) (.long (-1085102592571150096))) (by decide +kernel))
    · exact va_eqtl (hs (.eq (.elem (Term.static "HoursByPost" "SETS_WITH" "[J") (.int 3)) (.long (-71777214294589696))) (by decide +kernel))
    · exact va_eqtl (hs (.eq (.elem (Term.static "HoursByPost" "SETS_WITH" "[J") (.int 4)) (.long (-281470681808896))) (by decide +kernel))
    · exact va_eqtl (hs (.eq (.elem (Term.static "HoursByPost" "SETS_WITH" "[J") (.int 5)) (.long (-4294967296))) (by decide +kernel))
  obtain ⟨t4, ev4, hT4⟩ := va_Tof (ty := .long) (A := kA s) (by decide) (hs (.arrayOf (Term.static "HoursByPost" "SETS_WITH" "[J") .long) (by decide +kernel)) hl4 he4 hA
  have hZ4 := va_Zref (A := kA s) (hts (.laysStatic "HoursByPost" "SETS_WITH" "[J") (List.mem_of_getElem? (i := 770) (by decide +kernel))) (hts (.initialized "HoursByPost") (List.mem_of_getElem? (i := 77) (by decide +kernel))) ev4 hA
  refine ⟨fun k => if k = 0 then t0 else if k = 1 then t1 else if k = 2 then t2 else if k = 3 then t3 else t4, fun j hj => ?_⟩
  rcases (show j = 0 ∨ j = 1 ∨ j = 2 ∨ j = 3 ∨ j = 4 by omega) with rfl | rfl | rfl | rfl | rfl
  · exact ⟨hZ0, hT0⟩
  · exact ⟨hZ1, hT1⟩
  · exact ⟨hZ2, hT2⟩
  · exact ⟨hZ3, hT3⟩
  · exact ⟨hZ4, hT4⟩

theorem kstart_N {args : Array Value} {s : State} (hts : ∀ w ∈ lw_tbl, w.before args s = true) : jN s := fun w hw => va_Nw.of (List.all_eq_true.mp jnw_ok w hw) (hts w (jnw_in w hw))
theorem krng {α : Type} (l : List α) (x : α) : (List.range l.length).map (fun i => (l ++ [x])[i]?) = l.map some := by
  apply List.ext_getElem?
  intro i
  rw [List.getElem?_map, List.getElem?_map]
  by_cases h : i < l.length
  · rw [List.getElem?_range h]
    show some ((l ++ [x])[i]?) = _
    rw [List.getElem?_append_left h, List.getElem?_eq_getElem h]
    rfl
  · rw [List.getElem?_eq_none (by rw [List.length_range]; omega), List.getElem?_eq_none (by omega)]
    rfl
theorem klast {α : Type} (l : List α) (x : α) : [l.length].map (fun i => (l ++ [x])[i]?) = [x].map some := by
  show [(l ++ [x])[l.length]?] = [some x]
  rw [List.getElem?_append_right (Nat.le_refl _), Nat.sub_self]
  rfl
/-- from two memories side by side, at the head of the law's loop -/
theorem kbridge {p : Program} {l : Launch} {e : Env} {s : State} {m : MethodId} {below : List Frame} {meth : Method} {c : Code} {b L : Nat} {xs : Nat → Int32} {D : va_G} {cy : Nat → ClassId} {ad st : Nat → Nat} {q0 q1 kc ks : Nat} {u v : Nat → Nat} {Mx Mm : jM} (hkc : kc ≤ 600000) (hks : ks ≤ 7302250)
    (hk : (∀ o o' : Nat, o < 69 → o' < 23 → (fun i => if i = 0 then q0 else u i) o ≠ (fun i => if i = 0 then q1 else v i) o') → kJ (p, l, e, s, m, below, meth, c, b, L, xs, D, cy, (fun i => if i = 0 then q0 else u i), (fun i => if i = 0 then q1 else v i), st) 18 [(0, .ref b), (1, .ref q0), (2, .ref q1), (3, .int 0)] [] Mx Mm) :
    cJ (p, l, e, room_1, s, m, #[Value.ref b], below, meth, c, 4, D, cy, ad, st, kA s, 0, 0) (jws cy (fun i => if i = 0 then q0 else u i) RX Mx GX ++ jws cy (fun i => if i = 0 then q1 else v i) RM Mm GM) kc ks 18 [(3, .int 0), (2, .ref q1), (1, .ref q0), (0, .ref b)] [] (lw_Z below #[Value.ref b] s) := by
  intro H locs ls hl hP hD hS
  have hlx : (jws cy (fun i => if i = 0 then q0 else u i) RX Mx GX).length = 69 := jws_len
  have hlm : (jws cy (fun i => if i = 0 then q1 else v i) RM Mm GM).length = 23 := jws_len
  generalize hX : jws cy (fun i => if i = 0 then q0 else u i) RX Mx GX = WX at hP hD hlx
  generalize hM : jws cy (fun i => if i = 0 then q1 else v i) RM Mm GM = WM at hP hD hlm
  have hPX : va_P D vwCl WX H := fun k q hq => hP k q (by rw [List.getElem?_append_left (List.getElem?_eq_some_iff.mp hq).1]; exact hq)
  have hPM : va_P D vwCl WM H := fun k q hq => hP (WX.length + k) q (by rw [List.getElem?_append_right (by omega), Nat.add_sub_cancel_left]; exact hq)
  have hDX : va_D (kA s) WX := ⟨fun i j x y hi hj e => hD.1 i j x y (by rw [List.getElem?_append_left (List.getElem?_eq_some_iff.mp hi).1]; exact hi) (by rw [List.getElem?_append_left (List.getElem?_eq_some_iff.mp hj).1]; exact hj) e, fun k q hq => hD.2 k q (by rw [List.getElem?_append_left (List.getElem?_eq_some_iff.mp hq).1]; exact hq)⟩
  have hDM : va_D (kA s) WM := ⟨fun i j x y hi hj e => by
    have h9 := hD.1 (WX.length + i) (WX.length + j) x y (by rw [List.getElem?_append_right (by omega), Nat.add_sub_cancel_left]; exact hi) (by rw [List.getElem?_append_right (by omega), Nat.add_sub_cancel_left]; exact hj) e
    omega, fun k q hq => hD.2 (WX.length + k) q (by rw [List.getElem?_append_right (by omega), Nat.add_sub_cancel_left]; exact hq)⟩
  have hdis : ∀ o o' : Nat, o < 69 → o' < 23 → (fun i => if i = 0 then q0 else u i) o ≠ (fun i => if i = 0 then q1 else v i) o' := by
    intro o o' h1 h2 e9
    obtain ⟨x, hx⟩ : ∃ x, GX[o]? = some x := ⟨_, List.getElem?_eq_getElem (show o < GX.length from h1)⟩
    obtain ⟨y, hy⟩ : ∃ y, GM[o']? = some y := ⟨_, List.getElem?_eq_getElem (show o' < GM.length from h2)⟩
    have a1 := jws_at (cy := cy) (ad := fun i => if i = 0 then q0 else u i) (R := RX) (M := Mx) hx
    rw [hX] at a1
    have a2 := jws_at (cy := cy) (ad := fun i => if i = 0 then q1 else v i) (R := RM) (M := Mm) hy
    rw [hM] at a2
    have h9 := hD.1 o (WX.length + o') _ _ (by rw [List.getElem?_append_left (by omega)]; exact a1) (by rw [List.getElem?_append_right (by omega), Nat.add_sub_cancel_left]; exact a2) e9
    omega
  subst hX
  subst hM
  exact W.widen hkc hks (hk hdis H locs ls (lv_sub hl [3, 2, 1, 0] rfl) hPX hDX hPM hDM hS)
set_option maxHeartbeats 4000000 in
set_option maxRecDepth 100000 in
/-- the law from its entry, over any relation of the two memories that the calls keep -/
theorem whole_of {P : jM → jM → Prop} (h0 : kS_row P) (h1 : kS_lay P) (h2 : kS_at P) (h3 : kS_tear P) (h4 : kS_copy P) (h5 : kS_mean P) (h6 : kS_text P) (h7 : kS_put P) (h8 : kS_fault P) (h9 : kS_house P) (h10 : kS_deed P) (h11 : kS_hour P) (h12 : kS_mark P) (h13 : kS_route P) (h14 : kS_day P) (h15 : kS_open P) (h16 : kS_send P) (h17 : kS_undo P) (h18 : kS_shelf P) (h19 : kS_keep P) (h20 : kS_on P) (h21 : kS_can P) (h22 : kS_why P) (h23 : kS_opens P) (h24 : kS_late P) (h25 : kS_run P) (h26 : kS_most P) (h27 : kS_fewest P) (h28 : kS_order P) (h29 : kS_shut P) (h30 : kS_waits P) (h31 : kS_diary P) (h32 : kS_forged P) (h33 : kS_stolen P) (h34 : kS_odds P) (h35 : kS_lots P) (h36 : kS_asked P) (h37 : kS_upper P) (h38 : kS_lower P) (h39 : kS_count P) (h40 : kS_finding P) (h41 : kS_findings P) (h42 : kS_digest P) {M0 : jM} (hM0 : f_X6_initT mM9 = some M0) (hP0 : P mX0 M0) {p : Program} {e : Env} {s : State} {m : MethodId} {below : List Frame} {meth : Method} {c : Code} (l : Launch) {b L : Nat} {xs : Nat → Int32} (hL : L ≤ 3072) (C0 : lw_At p s m meth c b L xs) : W p l e room_1 s m #[Value.ref b] below meth c s.heap [] 0 0 (lw_Z below #[Value.ref b] s) (entryFrame m ([Value.ref b] : List Value).toArray 4) := by
  obtain ⟨hx, hb, hr, hml, hown, hts, hX, hbl, hlocks, hgv⟩ := id C0
  obtain ⟨D, cy, hK, hAO⟩ := kstart_K hts
  obtain ⟨st, hZ⟩ := kstart_Z hts hgv
  have hN := kstart_N hts
  have htj : ∀ w ∈ jtb, w.before #[Value.ref b] s = true := fun w h => hts w (List.mem_filter.mp h).1
  obtain ⟨Γ, hΓ⟩ : ∃ Γ : jG, Γ = (p, l, e, room_1, s, m, #[Value.ref b], below, meth, c, 4, D, cy, (fun _ => 0), st, kA s, 0, 0) := ⟨_, rfl⟩
  have hC : cOK Γ cL_law 4 RL ret room_1 := by
    subst hΓ
    exact ⟨⟨hx, hb, hml, hown, htj, rfl, hlocks, hr, hK, hZ, hN, fun _ h => h, rfl, Nat.zero_le _, Nat.zero_le _⟩, hAO⟩
  have hc : jcy Γ = cy := by subst hΓ; rfl
  have K : cJ Γ [] 0 0 0 [(0, .ref b)] [] (lw_Z below #[Value.ref b] s) := by
    refine c_new [.null, .null, .null, .null, .null, .null, .null, .null, .null, .int 0, .int 0, .long 0, .long 0] (pc' := 3) hC dL_law_0 rfl cls5 kn_L_7 dg5 ⟨Nat.le_of_ble_eq_true rfl, Nat.le_of_ble_eq_true rfl⟩ (fun q0 => ?_)
    refine c_dup (pc' := 4) hC dL_law_3 rfl rfl ?_
    have hm := ct_X5 (jlo Γ) (cEo Γ) q0
    rw [cEcy] at hm
    refine c_callI (wc := [(q0, .inr (5, [.null, .null, .null, .null, .null, .null, .null, .null, .null, .int 0, .int 0, .long 0, .long 0]))]) (wr := []) (rest := [.ref q0]) [] [0] [] (pc' := 7) hC dL_law_4 rfl hm ki_L_9 ⟨⟨Nat.le_of_ble_eq_true rfl, Nat.le_of_ble_eq_true rfl⟩, rfl, Nat.le_of_ble_eq_true rfl, Nat.le_of_ble_eq_true rfl, Nat.le_of_ble_eq_true rfl⟩ rfl rfl ⟨rfl, rfl, by decide⟩ rfl (fun u => ?_)
    refine c_astore_n (pc' := 8) hC dL_law_7 rfl (by decide) rfl ?_
    generalize hWX : jws (jcy Γ) (fun i => if i = 0 then q0 else u i) RX mX0 GX = WX
    have hlx : WX.length = 69 := by rw [← hWX]; exact jws_len
    show cJ Γ WX _ _ 8 [(1, .ref q0), (0, .ref b)] [] _
    refine c_new [.null, .null, .null, .null, .null, .null, .null, .int 0, .null, .null, .null, .int 0, .null, .null, .null, .int 0, .int 0, .long 0, .long 0, .int 0, .null, .null, .int 0, .null, .int 0, .null, .int 0, .null, .null, .null, .null, .null, .long 0] (pc' := 11) hC dL_law_8 rfl cls6 kn_L_10 dg6 ⟨Nat.le_of_ble_eq_true rfl, Nat.le_of_ble_eq_true rfl⟩ (fun q1 => ?_)
    refine c_dup (pc' := 12) hC dL_law_11 rfl rfl ?_
    have hm2 := ct_X6 (jlo Γ) (cEo Γ) q1 hM0
    rw [cEcy] at hm2
    refine c_callI (wc := [(q1, .inr (6, [.null, .null, .null, .null, .null, .null, .null, .int 0, .null, .null, .null, .int 0, .null, .null, .null, .int 0, .int 0, .long 0, .long 0, .int 0, .null, .null, .int 0, .null, .int 0, .null, .int 0, .null, .null, .null, .null, .null, .long 0]))]) (wr := WX) (rest := [.ref q1]) [] [69] (List.range 69) (pc' := 15) hC dL_law_12 rfl hm2 ki_L_12 ⟨⟨Nat.le_of_ble_eq_true rfl, Nat.le_of_ble_eq_true rfl⟩, rfl, Nat.le_of_ble_eq_true rfl, Nat.le_of_ble_eq_true rfl, Nat.le_of_ble_eq_true rfl⟩ (by rw [← hlx]; exact klast _ _) (by rw [← hlx]; exact krng _ _) ⟨rfl, by decide, by intro i hi; simp at hi ⊢; omega⟩ rfl (fun v => ?_)
    refine c_astore_n (pc' := 16) hC dL_law_15 rfl (by decide) rfl ?_
    refine c_iconst (v := 0) (pc' := 17) hC dL_law_16 rfl rfl ?_
    refine c_istore_n (pc' := 18) hC dL_law_17 rfl (by decide) rfl ?_
    subst hWX
    subst hΓ
    refine kbridge (L := L) (xs := xs) (by decide) (by decide) (fun hdis => ?_)
    exact k_loop (Λ := (p, l, e, s, m, below, meth, c, b, L, xs, D, cy, (fun i => if i = 0 then q0 else u i), (fun i => if i = 0 then q1 else v i), st)) ⟨hx, hb, hml, hown, htj, hlocks, hr, hX, hbl, hK, hZ, hN, hdis⟩ h0 h1 h2 h3 h4 h5 h6 h7 h8 h9 h10 h11 h12 h13 h14 h15 h16 h17 h18 h19 h20 h21 h22 h23 h24 h25 h26 h27 h28 h29 h30 h31 h32 h33 h34 h35 h36 h37 h38 h39 h40 h41 h42 hL (L + 1) 0 mX0 M0 hP0 (Nat.zero_le _) (Nat.lt_succ_self _)
  subst hΓ
  rw [lg_entry_eq]
  exact K s.heap [] _ (lv_entry ([.ref b]) (n := 4) (Nat.le_of_ble_eq_true rfl)) (fun k q h => by simp at h) ⟨fun i j p q h => by simp at h, fun k q h => by simp at h⟩ va_S.rf
