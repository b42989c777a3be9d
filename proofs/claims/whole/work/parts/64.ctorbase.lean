/-! CONSTRUCTORS: worlds written out, that grow -/
def jAO (U : State) : Prop := (Cond.arrayOver (.object "HoursByPost$Course")).before #[] U = true ∧ (Cond.arrayOver (.array .int)).before #[] U = true
theorem jAO_moved {u U : State} (hvm : u.vm.Alike U.vm) (h : jAO u) : jAO U := by
  refine ⟨?_, ?_⟩
  · have e := Cond.arrayOver_setVmC (args := #[]) hvm (.object "HoursByPost$Course")
    rw [h.1] at e
    exact e
  · have e := Cond.arrayOver_setVmC (args := #[]) hvm (.array .int)
    rw [h.2] at e
    exact e
def jmn (Γ : jG) : String := match Γ with
  | (p, l, e, R, s, m, args, below, meth, c, nL, D, cy, ad, st, A, kc9, ks9) => meth.name
def jcy (Γ : jG) : Nat → ClassId := match Γ with
  | (p, l, e, R, s, m, args, below, meth, c, nL, D, cy, ad, st, A, kc9, ks9) => cy
def jDo (Γ : jG) : va_G := match Γ with
  | (p, l, e, R, s, m, args, below, meth, c, nL, D, cy, ad, st, A, kc9, ks9) => D
def jso (Γ : jG) : State := match Γ with
  | (p, l, e, R, s, m, args, below, meth, c, nL, D, cy, ad, st, A, kc9, ks9) => s
def cOK (Γ : jG) (cc : ByteArray) (nl : Nat) (own : String) (ret : Option FieldType) (rm : Room) : Prop := jOK Γ cc nl own ret rm ∧ jAO (jso Γ)
def cJ (Γ : jG) (ws : va_W) (kc ks : Nat) (pc : Nat) (lv : List (Nat × Value)) (stk : List Value) (Q : State → Prop) : Prop := match Γ with
  | (p, l, e, R, s, m, args, below, meth, c, nL, D, cy, ad, st, A, kc9, ks9) => ∀ (H : Heap) (locs : List Loc) (ls : Array Slot), lv_has ls nL lv → va_P D vwCl ws H → va_D A ws → va_S A s.heap H locs → W p l e R s m args below meth c H locs kc ks Q (F0 m pc ls stk)

theorem c_iconst {Γ : jG} {ws : va_W} {kc ks : Nat} {cc : ByteArray} {nl : Nat} {own : String} {ret : Option FieldType} {rm : Room} {pc pc' : Nat} {lv : List (Nat × Value)} {rest : List Value} {Q : State → Prop} {n : Int} {v : Int32} (hC : cOK Γ cc nl own ret rm) (hd : decode cc pc = .ok (.iconst n, 1)) (hp : pc + 1 = pc') (hv : Int32.ofInt n = v) (k : cJ Γ ws kc ks pc' lv (.int v :: rest) Q) : cJ Γ ws kc ks pc lv (rest) Q := by
  subst hp
  obtain ⟨p, l, e, R, s, m, args, below, meth, c, nL, D, cy, ad, st, A, kc9, ks9⟩ := Γ
  obtain ⟨⟨hx, hb, hml, hown, hts, hR, hlk, hrt, hK, hZ, hN, hA, hnl, hkc, hks⟩, hAO⟩ := hC
  intro H locs ls hl hP hD hS
  exact lv_iconst hx hb hd hv (k H locs ls hl hP hD hS)

theorem c_bipush {Γ : jG} {ws : va_W} {kc ks : Nat} {cc : ByteArray} {nl : Nat} {own : String} {ret : Option FieldType} {rm : Room} {pc pc' : Nat} {lv : List (Nat × Value)} {rest : List Value} {Q : State → Prop} {n : Int} {v : Int32} (hC : cOK Γ cc nl own ret rm) (hd : decode cc pc = .ok (.bipush n, 2)) (hp : pc + 2 = pc') (hv : (Int8.ofInt n).toInt32 = v) (k : cJ Γ ws kc ks pc' lv (.int v :: rest) Q) : cJ Γ ws kc ks pc lv (rest) Q := by
  subst hp
  obtain ⟨p, l, e, R, s, m, args, below, meth, c, nL, D, cy, ad, st, A, kc9, ks9⟩ := Γ
  obtain ⟨⟨hx, hb, hml, hown, hts, hR, hlk, hrt, hK, hZ, hN, hA, hnl, hkc, hks⟩, hAO⟩ := hC
  intro H locs ls hl hP hD hS
  exact lv_bipush hx hb hd hv (k H locs ls hl hP hD hS)

theorem c_sipush {Γ : jG} {ws : va_W} {kc ks : Nat} {cc : ByteArray} {nl : Nat} {own : String} {ret : Option FieldType} {rm : Room} {pc pc' : Nat} {lv : List (Nat × Value)} {rest : List Value} {Q : State → Prop} {n : Int} {v : Int32} (hC : cOK Γ cc nl own ret rm) (hd : decode cc pc = .ok (.sipush n, 3)) (hp : pc + 3 = pc') (hv : (Int16.ofInt n).toInt32 = v) (k : cJ Γ ws kc ks pc' lv (.int v :: rest) Q) : cJ Γ ws kc ks pc lv (rest) Q := by
  subst hp
  obtain ⟨p, l, e, R, s, m, args, below, meth, c, nL, D, cy, ad, st, A, kc9, ks9⟩ := Γ
  obtain ⟨⟨hx, hb, hml, hown, hts, hR, hlk, hrt, hK, hZ, hN, hA, hnl, hkc, hks⟩, hAO⟩ := hC
  intro H locs ls hl hP hD hS
  exact lv_sipush hx hb hd hv (k H locs ls hl hP hD hS)

theorem c_lconst {Γ : jG} {ws : va_W} {kc ks : Nat} {cc : ByteArray} {nl : Nat} {own : String} {ret : Option FieldType} {rm : Room} {pc pc' : Nat} {lv : List (Nat × Value)} {rest : List Value} {Q : State → Prop} {n : Fin 2} {v : Int64} (hC : cOK Γ cc nl own ret rm) (hd : decode cc pc = .ok (.lconst n, 1)) (hp : pc + 1 = pc') (hv : Int64.ofNat (n : Nat) = v) (k : cJ Γ ws kc ks pc' lv (.long v :: rest) Q) : cJ Γ ws kc ks pc lv (rest) Q := by
  subst hp
  obtain ⟨p, l, e, R, s, m, args, below, meth, c, nL, D, cy, ad, st, A, kc9, ks9⟩ := Γ
  obtain ⟨⟨hx, hb, hml, hown, hts, hR, hlk, hrt, hK, hZ, hN, hA, hnl, hkc, hks⟩, hAO⟩ := hC
  intro H locs ls hl hP hD hS
  exact lv_lconst hx hb hd hv (k H locs ls hl hP hD hS)

theorem c_iload_n {Γ : jG} {ws : va_W} {kc ks : Nat} {cc : ByteArray} {nl : Nat} {own : String} {ret : Option FieldType} {rm : Room} {pc pc' : Nat} {lv : List (Nat × Value)} {rest : List Value} {Q : State → Prop} (q : Nat) {f : Fin 4} {x : Int32} (hC : cOK Γ cc nl own ret rm) (hd : decode cc pc = .ok (.iload_n f, 1)) (hp : pc + 1 = pc') (hq : lv[q]? = some ((f : Nat), .int x)) (k : cJ Γ ws kc ks pc' lv (.int x :: rest) Q) : cJ Γ ws kc ks pc lv (rest) Q := by
  subst hp
  obtain ⟨p, l, e, R, s, m, args, below, meth, c, nL, D, cy, ad, st, A, kc9, ks9⟩ := Γ
  obtain ⟨⟨hx, hb, hml, hown, hts, hR, hlk, hrt, hK, hZ, hN, hA, hnl, hkc, hks⟩, hAO⟩ := hC
  intro H locs ls hl hP hD hS
  exact lv_iload_n hx hb hd rfl (lv_at hl q hq) (k H locs ls hl hP hD hS)

theorem c_aload_n {Γ : jG} {ws : va_W} {kc ks : Nat} {cc : ByteArray} {nl : Nat} {own : String} {ret : Option FieldType} {rm : Room} {pc pc' : Nat} {lv : List (Nat × Value)} {rest : List Value} {Q : State → Prop} (q : Nat) {f : Fin 4} {a : Nat} (hC : cOK Γ cc nl own ret rm) (hd : decode cc pc = .ok (.aload_n f, 1)) (hp : pc + 1 = pc') (hq : lv[q]? = some ((f : Nat), .ref a)) (k : cJ Γ ws kc ks pc' lv (.ref a :: rest) Q) : cJ Γ ws kc ks pc lv (rest) Q := by
  subst hp
  obtain ⟨p, l, e, R, s, m, args, below, meth, c, nL, D, cy, ad, st, A, kc9, ks9⟩ := Γ
  obtain ⟨⟨hx, hb, hml, hown, hts, hR, hlk, hrt, hK, hZ, hN, hA, hnl, hkc, hks⟩, hAO⟩ := hC
  intro H locs ls hl hP hD hS
  exact lv_aload_n hx hb hd rfl (lv_at hl q hq) (k H locs ls hl hP hD hS)

theorem c_dup {Γ : jG} {ws : va_W} {kc ks : Nat} {cc : ByteArray} {nl : Nat} {own : String} {ret : Option FieldType} {rm : Room} {pc pc' : Nat} {lv : List (Nat × Value)} {rest : List Value} {Q : State → Prop} {v : Value} (hC : cOK Γ cc nl own ret rm) (hd : decode cc pc = .ok (.dup, 1)) (hp : pc + 1 = pc') (hv : v.category = 1) (k : cJ Γ ws kc ks pc' lv (v :: v :: rest) Q) : cJ Γ ws kc ks pc lv (v :: rest) Q := by
  subst hp
  obtain ⟨p, l, e, R, s, m, args, below, meth, c, nL, D, cy, ad, st, A, kc9, ks9⟩ := Γ
  obtain ⟨⟨hx, hb, hml, hown, hts, hR, hlk, hrt, hK, hZ, hN, hA, hnl, hkc, hks⟩, hAO⟩ := hC
  intro H locs ls hl hP hD hS
  exact lv_dup hx hb hd hv (k H locs ls hl hP hD hS)

theorem c_astore_n {Γ : jG} {ws : va_W} {kc ks : Nat} {cc : ByteArray} {nl : Nat} {own : String} {ret : Option FieldType} {rm : Room} {pc pc' : Nat} {lv : List (Nat × Value)} {rest : List Value} {Q : State → Prop} {f : Fin 4} {x : Nat} {lv' : List (Nat × Value)} (hC : cOK Γ cc nl own ret rm) (hd : decode cc pc = .ok (.astore_n f, 1)) (hp : pc + 1 = pc') (hn : (f : Nat) < nl) (hlv : ((f : Nat), Value.ref x) :: lv.filter (fun q => !(q.1 == (f : Nat)) && !(q.1 + 1 == (f : Nat) && q.2.category == 2)) = lv') (k : cJ Γ ws kc ks pc' lv' rest Q) : cJ Γ ws kc ks pc lv (.ref x :: rest) Q := by
  subst hp
  obtain ⟨p, l, e, R, s, m, args, below, meth, c, nL, D, cy, ad, st, A, kc9, ks9⟩ := Γ
  obtain ⟨⟨hx, hb, hml, hown, hts, hR, hlk, hrt, hK, hZ, hN, hA, hnl, hkc, hks⟩, hAO⟩ := hC
  intro H locs ls hl hP hD hS
  exact lv_astore_n hx hb hd rfl hl (by rw [hnl]; exact hn) hlv (fun ls hl => k H locs ls hl hP hD hS)

theorem c_istore_n {Γ : jG} {ws : va_W} {kc ks : Nat} {cc : ByteArray} {nl : Nat} {own : String} {ret : Option FieldType} {rm : Room} {pc pc' : Nat} {lv : List (Nat × Value)} {rest : List Value} {Q : State → Prop} {f : Fin 4} {x : Int32} {lv' : List (Nat × Value)} (hC : cOK Γ cc nl own ret rm) (hd : decode cc pc = .ok (.istore_n f, 1)) (hp : pc + 1 = pc') (hn : (f : Nat) < nl) (hlv : ((f : Nat), Value.int x) :: lv.filter (fun q => !(q.1 == (f : Nat)) && !(q.1 + 1 == (f : Nat) && q.2.category == 2)) = lv') (k : cJ Γ ws kc ks pc' lv' rest Q) : cJ Γ ws kc ks pc lv (.int x :: rest) Q := by
  subst hp
  obtain ⟨p, l, e, R, s, m, args, below, meth, c, nL, D, cy, ad, st, A, kc9, ks9⟩ := Γ
  obtain ⟨⟨hx, hb, hml, hown, hts, hR, hlk, hrt, hK, hZ, hN, hA, hnl, hkc, hks⟩, hAO⟩ := hC
  intro H locs ls hl hP hD hS
  exact lv_istore_n hx hb hd rfl hl (by rw [hnl]; exact hn) hlv (fun ls hl => k H locs ls hl hP hD hS)

theorem c_obj {Γ : jG} {ws : va_W} {kc ks : Nat} {cc : ByteArray} {nl : Nat} {own : String} {ret : Option FieldType} {rm : Room} {pc pc' : Nat} {lv : List (Nat × Value)} {rest : List Value} {Q : State → Prop} {index a : Nat} (hC : cOK Γ cc nl own ret rm) (hd : decode cc pc = .ok (.invokespecial index, 3)) (hp : pc + 3 = pc') (hw : Cond.methodLink own index objectInit ∈ jtb ∧ Cond.instanceMethod objectInit ∈ jtb ∧ Cond.code objectInit ⟨#[0xb1]⟩ 1 none ∈ jtb) (hr : 1 ≤ rm.frames ∧ (rest.map fun v => v.category).sum + 12 ≤ rm.locals) (k : cJ Γ ws kc ks pc' lv rest Q) : cJ Γ ws kc ks pc lv (.ref a :: rest) Q := by
  subst hp
  obtain ⟨p, l, e, R, s, m, args, below, meth, c, nL, D, cy, ad, st, A, kc9, ks9⟩ := Γ
  obtain ⟨⟨hx, hb, hml, hown, hts, hR, hlk, hrt, hK, hZ, hN, hA, hnl, hkc, hks⟩, hAO⟩ := hC
  intro H locs ls hl hP hD hS
  obtain ⟨w1, w2, w3⟩ := hw
  subst hR
  refine W.objInit hx hb hown (hts _ w1) (hts _ w2) (hts _ w3) rfl (by rw [hml]; exact hl.1) rfl hd hr.1 (by show 2 * 0 + _ + 12 ≤ _; have := hr.2; omega) ?_
  exact W.eq (g2 := F0 m (pc + 3) ls rest) rfl (k H locs ls hl hP hD hS)

theorem c_new0 {Γ : jG} {ws : va_W} {kc ks : Nat} {cc : ByteArray} {nl : Nat} {own : String} {ret : Option FieldType} {rm : Room} {pc pc' : Nat} {lv : List (Nat × Value)} {rest : List Value} {Q : State → Prop} {n : Int32} {N : Nat} (hC : cOK Γ cc nl own ret rm) (hd : decode cc pc = .ok (.newarray .int, 2)) (hp : pc + 2 = pc') (hw : Cond.arrayClass .int ∈ jtb) (hn : ¬ n < 0 ∧ n.toNatClampNeg = N ∧ N ≤ 67108864) (hr : kc + 1 ≤ rm.cells ∧ ks + N ≤ rm.slots) (k : ∀ q, cJ Γ (ws ++ [(q, .inl (jcy Γ 0, N, .inl (fun _ => 0)))]) (kc + 1) (ks + N) pc' lv (.ref q :: rest) Q) : cJ Γ ws kc ks pc lv (.int n :: rest) Q := by
  subst hp
  obtain ⟨p, l, e, R, s, m, args, below, meth, c, nL, D, cy, ad, st, A, kc9, ks9⟩ := Γ
  obtain ⟨⟨hx, hb, hml, hown, hts, hR, hlk, hrt, hK, hZ, hN, hA, hnl, hkc, hks⟩, hAO⟩ := hC
  intro H locs ls hl hP hD hS
  subst hR
  refine va_newa (atype := .int) (ty := .int) (a0 := (N, .inl (fun _ => 0))) hx hb (hts _ hw) rfl hK hP hD hS hA (fun _ => rfl) hn.1 hn.2.1 (by show N * 4 ≤ _; have := hn.2.2; omega) hr.1 hr.2 hd (fun q cA H1 hK1 hP1 hD1 hS1 => ?_)
  have e1 : cA = cy 0 := Option.some.inj ((hK1.2 5 (cA, .int) rfl).2.symm.trans (hK.2 0 (cy 0, .int) rfl).2)
  subst e1
  exact k q H1 locs ls hl hP1 hD1 hS1

theorem c_new1 {Γ : jG} {ws : va_W} {kc ks : Nat} {cc : ByteArray} {nl : Nat} {own : String} {ret : Option FieldType} {rm : Room} {pc pc' : Nat} {lv : List (Nat × Value)} {rest : List Value} {Q : State → Prop} {n : Int32} {N : Nat} (hC : cOK Γ cc nl own ret rm) (hd : decode cc pc = .ok (.newarray .long, 2)) (hp : pc + 2 = pc') (hw : Cond.arrayClass .long ∈ jtb) (hn : ¬ n < 0 ∧ n.toNatClampNeg = N ∧ N ≤ 67108864) (hr : kc + 1 ≤ rm.cells ∧ ks + N ≤ rm.slots) (k : ∀ q, cJ Γ (ws ++ [(q, .inl (jcy Γ 1, N, .inr (.inl (fun _ => 0))))]) (kc + 1) (ks + N) pc' lv (.ref q :: rest) Q) : cJ Γ ws kc ks pc lv (.int n :: rest) Q := by
  subst hp
  obtain ⟨p, l, e, R, s, m, args, below, meth, c, nL, D, cy, ad, st, A, kc9, ks9⟩ := Γ
  obtain ⟨⟨hx, hb, hml, hown, hts, hR, hlk, hrt, hK, hZ, hN, hA, hnl, hkc, hks⟩, hAO⟩ := hC
  intro H locs ls hl hP hD hS
  subst hR
  refine va_newa (atype := .long) (ty := .long) (a0 := (N, .inr (.inl (fun _ => 0)))) hx hb (hts _ hw) rfl hK hP hD hS hA (fun _ => rfl) hn.1 hn.2.1 (by show N * 8 ≤ _; have := hn.2.2; omega) hr.1 hr.2 hd (fun q cA H1 hK1 hP1 hD1 hS1 => ?_)
  have e1 : cA = cy 1 := Option.some.inj ((hK1.2 5 (cA, .long) rfl).2.symm.trans (hK.2 1 (cy 1, .long) rfl).2)
  subst e1
  exact k q H1 locs ls hl hP1 hD1 hS1

theorem c_new2 {Γ : jG} {ws : va_W} {kc ks : Nat} {cc : ByteArray} {nl : Nat} {own : String} {ret : Option FieldType} {rm : Room} {pc pc' : Nat} {lv : List (Nat × Value)} {rest : List Value} {Q : State → Prop} {n : Int32} {N : Nat} (hC : cOK Γ cc nl own ret rm) (hd : decode cc pc = .ok (.newarray .boolean, 2)) (hp : pc + 2 = pc') (hw : Cond.arrayClass .boolean ∈ jtb) (hn : ¬ n < 0 ∧ n.toNatClampNeg = N ∧ N ≤ 67108864) (hr : kc + 1 ≤ rm.cells ∧ ks + N ≤ rm.slots) (k : ∀ q, cJ Γ (ws ++ [(q, .inl (jcy Γ 2, N, .inl (fun _ => 0)))]) (kc + 1) (ks + N) pc' lv (.ref q :: rest) Q) : cJ Γ ws kc ks pc lv (.int n :: rest) Q := by
  subst hp
  obtain ⟨p, l, e, R, s, m, args, below, meth, c, nL, D, cy, ad, st, A, kc9, ks9⟩ := Γ
  obtain ⟨⟨hx, hb, hml, hown, hts, hR, hlk, hrt, hK, hZ, hN, hA, hnl, hkc, hks⟩, hAO⟩ := hC
  intro H locs ls hl hP hD hS
  subst hR
  refine va_newa (atype := .boolean) (ty := .boolean) (a0 := (N, .inl (fun _ => 0))) hx hb (hts _ hw) rfl hK hP hD hS hA (fun _ => rfl) hn.1 hn.2.1 (by show N * 1 ≤ _; have := hn.2.2; omega) hr.1 hr.2 hd (fun q cA H1 hK1 hP1 hD1 hS1 => ?_)
  have e1 : cA = cy 2 := Option.some.inj ((hK1.2 5 (cA, .boolean) rfl).2.symm.trans (hK.2 2 (cy 2, .boolean) rfl).2)
  subst e1
  exact k q H1 locs ls hl hP1 hD1 hS1

theorem c_new {Γ : jG} {ws : va_W} {kc ks : Nat} {cc : ByteArray} {nl : Nat} {own : String} {ret : Option FieldType} {rm : Room} {pc pc' : Nat} {lv : List (Nat × Value)} {rest : List Value} {Q : State → Prop} {index ci N : Nat} {C : String} {T : u_T} {ty : Nat → FieldType} (fs : List Value) (hC : cOK Γ cc nl own ret rm) (hd : decode cc pc = .ok (.new index, 3)) (hp : pc + 3 = pc') (hc : jcls ci C T N ty) (hw : Cond.classLink own index C ∈ jtb ∧ Cond.instantiable C N ∈ jtb ∧ Cond.initialized C ∈ jtb) (hfs : ∀ j, j < N → defaultValue (ty j) = vp_V fs j) (hr : kc + 1 ≤ rm.cells ∧ ks + N ≤ rm.slots) (k : ∀ q, cJ Γ (ws ++ [(q, .inr (ci, fs))]) (kc + 1) (ks + N) pc' lv (.ref q :: rest) Q) : cJ Γ ws kc ks pc lv rest Q := by
  subst hp
  obtain ⟨p, l, e, R, s, m, args, below, meth, c, nL, D, cy, ad, st, A, kc9, ks9⟩ := Γ
  obtain ⟨⟨hx, hb, hml, hown, hts, hR, hlk, hrt, hK, hZ, hN, hA, hnl, hkc, hks⟩, hAO⟩ := hC
  intro H locs ls hl hP hD hS
  obtain ⟨w1, w2, w3⟩ := hw
  subst hR
  exact va_new hx hb hts hc.2.1 ty hc.2.2.1 hown (hts _ w1) (hts _ w2) (hts _ w3) hK hP hD hS hA hc.1 hfs hr.1 hr.2 hd (fun q H1 hP1 hD1 hS1 => k q H1 locs ls hl hP1 hD1 hS1)
theorem c_anew {Γ : jG} {ws : va_W} {kc ks : Nat} {cc : ByteArray} {nl : Nat} {own : String} {ret : Option FieldType} {rm : Room} {pc pc' : Nat} {lv : List (Nat × Value)} {rest : List Value} {Q : State → Prop} {index N : Nat} {n : Int32} (hC : cOK Γ cc nl own ret rm) (hd : decode cc pc = .ok (.anewarray index, 3)) (hp : pc + 3 = pc') (hw : Cond.classLink own index "HoursByPost$Course" ∈ jtb) (hn : ¬ n < 0 ∧ n.toNatClampNeg = N ∧ N ≤ 67108864) (hr : kc + 1 ≤ rm.cells ∧ ks + N ≤ rm.slots) (k : ∀ q, cJ Γ (ws ++ [(q, .inl (jcy Γ 3, N, .inr (.inr (.inr (.inr (fun _ => none))))))]) (kc + 1) (ks + N) pc' lv (.ref q :: rest) Q) : cJ Γ ws kc ks pc lv (.int n :: rest) Q := by
  subst hp
  obtain ⟨p, l, e, R, s, m, args, below, meth, c, nL, D, cy, ad, st, A, kc9, ks9⟩ := Γ
  obtain ⟨⟨hx, hb, hml, hown, hts, hR, hlk, hrt, hK, hZ, hN, hA, hnl, hkc, hks⟩, hAO⟩ := hC
  intro H locs ls hl hP hD hS
  subst hR
  refine va_newq hx hb hown (hts _ hw) hAO.1 hK hP hD hS hA hn.1 hn.2.1 (by have := hn.2.2; omega) hr.1 hr.2 hd (fun q cA H1 hK1 hP1 hD1 hS1 => ?_)
  obtain ⟨-, -, -, -, -, f1⟩ := (hK1.2 5 (cA, .object "HoursByPost$Course") rfl).2
  obtain ⟨-, -, -, -, -, f2⟩ := (hK.2 3 (cy 3, .object "HoursByPost$Course") rfl).2
  have e1 : cA = cy 3 := Option.some.inj (f1.symm.trans f2)
  subst e1
  exact k q H1 locs ls hl hP1 hD1 hS1
theorem c_put {Γ : jG} {ws : va_W} {kc ks : Nat} {cc : ByteArray} {nl : Nat} {own : String} {ret : Option FieldType} {rm : Room} {pc pc' : Nat} {lv : List (Nat × Value)} {rest : List Value} {Q : State → Prop} {ws' : va_W} {index ci N k0 a : Nat} {C : String} {T : u_T} {ty : Nat → FieldType} (q0 : Nat) {fs : List Value} {v : Value} {tv : FieldType} (hC : cOK Γ cc nl own ret rm) (hin : jmn Γ = "<init>") (hd : decode cc pc = .ok (.putfield index, 3)) (hp : pc + 3 = pc') (hc : jcls ci C T N ty) (hk : k0 < N) (hw : Cond.fieldLink own index (T k0).1 (T k0).2.1 (T k0).2.2.1 ∈ jtb) (ho : (T k0).1 = own) (hty : ty k0 = tv) (hv : narrow tv v = v ∧ fits tv v = true) (he : ws[q0]? = some (a, .inr (ci, fs))) (hlen : k0 < fs.length) (hws : ws.set q0 (a, .inr (ci, fs.set k0 v)) = ws') (k : cJ Γ ws' kc ks pc' lv rest Q) : cJ Γ ws kc ks pc lv (v :: .ref a :: rest) Q := by
  subst hp
  subst hws
  obtain ⟨p, l, e, R, s, m, args, below, meth, c, nL, D, cy, ad, st, A, kc9, ks9⟩ := Γ
  obtain ⟨⟨hx, hb, hml, hown, hts, hR, hlk, hrt, hK, hZ, hN, hA, hnl, hkc, hks⟩, hAO⟩ := hC
  intro H locs ls hl hP hD hS
  have hpd : parseFieldDescriptor (T k0).2.2.1 = some tv := by rw [← hty]; exact hc.2.2.1 k0 hk
  cases hf : (T k0).2.2.2 with
  | false => exact va_put (D := D) hx hb hts hc.2.1 ty hc.2.2.1 hc.2.2.2 hown hK hP hD hS q0 he hc.1 k0 hk (hts _ hw) (fun _ h => h) hf hpd hv.1 hv.2 hlen hd (fun H1 locs1 hP1 hD1 hS1 => k H1 locs1 ls hl hP1 hD1 hS1)
  | true => exact va_putF (D := D) hx hb hts hc.2.1 ty hc.2.2.1 hc.2.2.2 hown hK hP hD hS q0 he hc.1 k0 hk (hts _ hw) (fun _ h => h) hf hin ho hpd hv.1 hv.2 hlen hd (fun H1 locs1 hP1 hD1 hS1 => k H1 locs1 ls hl hP1 hD1 hS1)
theorem c_get {Γ : jG} {ws : va_W} {kc ks : Nat} {cc : ByteArray} {nl : Nat} {own : String} {ret : Option FieldType} {rm : Room} {pc pc' : Nat} {lv : List (Nat × Value)} {rest : List Value} {Q : State → Prop} {index ci N k0 a : Nat} {C : String} {T : u_T} {ty : Nat → FieldType} (q0 : Nat) {fs : List Value} {v : Value} (hC : cOK Γ cc nl own ret rm) (hd : decode cc pc = .ok (.getfield index, 3)) (hp : pc + 3 = pc') (hc : jcls ci C T N ty) (hk : k0 < N) (hw : Cond.fieldLink own index (T k0).1 (T k0).2.1 (T k0).2.2.1 ∈ jtb) (he : ws[q0]? = some (a, .inr (ci, fs))) (hv : fs[k0]? = some v) (k : cJ Γ ws kc ks pc' lv (v :: rest) Q) : cJ Γ ws kc ks pc lv (.ref a :: rest) Q := by
  subst hp
  obtain ⟨p, l, e, R, s, m, args, below, meth, c, nL, D, cy, ad, st, A, kc9, ks9⟩ := Γ
  obtain ⟨⟨hx, hb, hml, hown, hts, hR, hlk, hrt, hK, hZ, hN, hA, hnl, hkc, hks⟩, hAO⟩ := hC
  intro H locs ls hl hP hD hS
  exact va_get (D := D) hx hb hts hc.2.1 hown hK hP q0 he hc.1 k0 hk (hts _ hw) (fun _ h => h) hv hd (k H locs ls hl hP hD hS)
theorem c_gets {Γ : jG} {ws : va_W} {kc ks : Nat} {cc : ByteArray} {nl : Nat} {own : String} {ret : Option FieldType} {rm : Room} {pc pc' : Nat} {lv : List (Nat × Value)} {rest : List Value} {Q : State → Prop} (j : Nat) {index : Nat} (hC : cOK Γ cc nl own ret rm) (hd : decode cc pc = .ok (.getstatic index, 3)) (hp : pc + 3 = pc') (hj : j < 5) (hw : Cond.fieldLinkNest own index "HoursByPost" (jsn j) (jsd j) "HoursByPost" ∈ jnw) (k : cJ Γ ws kc ks pc' lv (.ref (jst Γ j) :: rest) Q) : cJ Γ ws kc ks pc lv rest Q := by
  subst hp
  obtain ⟨p, l, e, R, s, m, args, below, meth, c, nL, D, cy, ad, st, A, kc9, ks9⟩ := Γ
  obtain ⟨⟨hx, hb, hml, hown, hts, hR, hlk, hrt, hK, hZ, hN, hA, hnl, hkc, hks⟩, hAO⟩ := hC
  intro H locs ls hl hP hD hS
  exact va_getsN hx hb (hZ j hj).1 hS hown (va_Nw.use rfl (hN _ hw)) (fun _ h => h) hd (k H locs ls hl hP hD hS)
theorem c_aast {Γ : jG} {ws : va_W} {kc ks : Nat} {cc : ByteArray} {nl : Nat} {own : String} {ret : Option FieldType} {rm : Room} {pc pc' : Nat} {lv : List (Nat × Value)} {rest : List Value} {Q : State → Prop} {ws' : va_W} (q0 qk : Nat) {N a v : Nat} {vs : List Value} {f : Nat → Option Nat} {i : Int32} (hC : cOK Γ cc nl own ret rm) (hd : decode cc pc = .ok (.aastore, 1)) (hp : pc + 1 = pc') (ha : ws[q0]? = some (a, .inl (jcy Γ 3, N, .inr (.inr (.inr (.inr f)))))) (hv : ws[qk]? = some (v, .inr (0, vs))) (hi : vp_in i N) (hws : ws.set q0 (a, .inl (jcy Γ 3, N, .inr (.inr (.inr (.inr (va_up f i.toNatClampNeg (some v))))))) = ws') (k : cJ Γ ws' kc ks pc' lv rest Q) : cJ Γ ws kc ks pc lv (.ref v :: .int i :: .ref a :: rest) Q := by
  subst hp
  subst hws
  obtain ⟨p, l, e, R, s, m, args, below, meth, c, nL, D, cy, ad, st, A, kc9, ks9⟩ := Γ
  obtain ⟨⟨hx, hb, hml, hown, hts, hR, hlk, hrt, hK, hZ, hN, hA, hnl, hkc, hks⟩, hAO⟩ := hC
  intro H locs ls hl hP hD hS
  exact va_astq (D := D) (r := (RX0, TX0, 12)) hx hb hK hP hD hS q0 3 qk 0 ha rfl hv rfl hi hd (fun H1 locs1 hP1 hD1 hS1 => k H1 locs1 ls hl hP1 hD1 hS1)
theorem c_scopy {Γ : jG} {ws : va_W} {kc ks : Nat} {cc : ByteArray} {nl : Nat} {own : String} {ret : Option FieldType} {rm : Room} {pc pc' : Nat} {lv : List (Nat × Value)} {rest : List Value} {Q : State → Prop} {ws' : va_W} (j q1 : Nat) {index N n1 a : Nat} {g : Nat → Int32} {n : Int32} (hC : cOK Γ cc nl own ret rm) (hd : decode cc pc = .ok (.invokestatic index, 3)) (hp : pc + 3 = pc') (hw : Cond.methodLink own index arraycopyName ∈ jtb ∧ Cond.native arraycopyName ∈ jtb ∧ Cond.static arraycopyName ∈ jtb ∧ Cond.initialized "java/lang/System" ∈ jtb) (ha : ws[q1]? = some (a, .inl (jcy Γ 0, n1, .inl g))) (hj : j < 3) (hk : ¬ n < 0 ∧ n.toNatClampNeg = N ∧ N ≤ jslen j ∧ N ≤ n1) (hr : 1 ≤ rm.frames ∧ (rest.map fun v => v.category).sum + (nativeFrameWords "java/lang/System" "arraycopy" 5 + 11) ≤ rm.locals) (hws : ws.set q1 (a, .inl (jcy Γ 0, n1, .inl (va_cpy (fun q => (jsI j).getD q 0) g 0 0 N))) = ws') (k : cJ Γ ws' kc ks pc' lv rest Q) : cJ Γ ws kc ks pc lv (.int n :: .int 0 :: .ref a :: .int 0 :: .ref (jst Γ j) :: rest) Q := by
  subst hp
  subst hws
  obtain ⟨p, l, e, R, s, m, args, below, meth, c, nL, D, cy, ad, st, A, kc9, ks9⟩ := Γ
  obtain ⟨⟨hx, hb, hml, hown, hts, hR, hlk, hrt, hK, hZ, hN, hA, hnl, hkc, hks⟩, hAO⟩ := hC
  intro H locs ls hl hP hD hS
  obtain ⟨w1, w2, w3, w4⟩ := hw
  obtain ⟨c1, c2, c3, c4⟩ := hk
  subst hR
  have hT := (hZ j (by omega)).2
  have e7 : jsty j = .int := by rcases (show j = 0 ∨ j = 1 ∨ j = 2 by omega) with rfl | rfl | rfl <;> rfl
  have e8 : jsv j = fun q => Value.int ((jsI j).getD q 0) := by funext q; simp [jsv, hj]
  rw [e7, e8] at hT
  exact w_scopy hx hb (by rw [hml]; exact hl.1.symm) hown (hts _ w1) (hts _ w2) (hts _ w3) (hts _ w4) hK hP hD hS hT q1 0 ha rfl c1 c2 c3 c4 hr.1 hr.2 hd (fun H1 locs1 hP1 hD1 hS1 => k H1 locs1 ls hl hP1 hD1 hS1)

abbrev cE : Type := va_G × (Nat → ClassId) × (Nat → Nat)
def cEo (Γ : jG) : cE := match Γ with
  | (p, l, e, R, s, m, args, below, meth, c, nL, D, cy, ad, st, A, kc9, ks9) => (D, cy, st)
def cPre (E : cE) (ws : va_W) (sz : Nat) (U : State) : Prop := U.heap.size = sz ∧ va_P E.1 vwCl ws U.heap ∧ va_K E.1 vwCl (jtys E.2.1) U ∧ va_D (fun _ => True) ws ∧ jZ E.2.2 (va_A ws sz) U U.heap ∧ jN U ∧ jAO U
def cPost (E : cE) (A : Nat → Prop) (ws : va_W) (t : State) : Prop := va_P E.1 vwCl ws t.heap ∧ va_K E.1 vwCl (jtys E.2.1) t ∧ va_D A ws
theorem cPre_blind {E : cE} {ws : va_W} {sz : Nat} {av : List Value} : FrameBlind (va_Pc av (cPre E ws sz)) := fun a U g mk q => by
  obtain ⟨q0, q1, qP, qK, qD, qZ, qN, qA⟩ := q
  exact ⟨q0, q1, qP, va_K.moved (u := U) (U := U.calling g mk a) (Vm.Alike.refl U.vm) qK, qD, jZ_moved (u := U) (U := U.calling g mk a) (Vm.Alike.refl U.vm) qZ, jN_same (u := U) (U := U.calling g mk a) rfl qN, jAO_moved (u := U) (U := U.calling g mk a) (Vm.Alike.refl U.vm) qA⟩
def cCt (l : Launch) (y : MethodName) (cc : ByteArray) (nl : Nat) (fr mc ms lc : Nat) (E : cE) (av : List Value) (ws : va_W) (W2 : (Nat → Nat) → va_W) : Prop := ∀ sz : Nat, Met l y (.code y cc nl none :: jtb) { frames := fr, cells := mc, slots := ms, locals := lc } (va_Pc av (cPre E ws sz)) (va_Qv (fun (_ : Nat → Nat) => True) (fun (u : Nat → Nat) t => cPost E (va_A ws sz) (W2 u) t) (va_A ws sz)) mc ms (va_A ws sz)
def cQ (Γ : jG) (mc ms : Nat) (W2 : (Nat → Nat) → va_W) : State → Prop := match Γ with
  | (p, l, e, R, s, m, args, below, meth, c, nL, D, cy, ad, st, A, kc9, ks9) => MQ below (va_Qv (fun (_ : Nat → Nat) => True) (fun (u : Nat → Nat) t => cPost (D, cy, st) A (W2 u) t) A) args s mc ms A
theorem cCt_of {l : Launch} {y : MethodName} {cc : ByteArray} {nl : Nat} {own : String} {fr mc ms lc : Nat} {E : cE} {av : List Value} {ws : va_W} {W2 : (Nat → Nat) → va_W} (hy : plainName y.cls = true) (ho : y.cls = own) (hn : y.name = "<init>") (hav : (lg_sl av).length ≤ nl)
    (body : ∀ Γ : jG, cOK Γ cc nl own none { frames := fr, cells := mc, slots := ms, locals := lc } → jmn Γ = "<init>" → cEo Γ = E → jlo Γ = l → cJ Γ ws 0 0 0 (lv_args 0 av) [] (cQ Γ mc ms W2)) : cCt l y cc nl fr mc ms lc E av ws W2 := by
  intro sz
  obtain ⟨D, cy, st⟩ := E
  refine Met.ofW (cc := cc) (maxL := nl) (ret := none) hy rfl ?_
  intro p e s m args below meth c s₁ B hml hv
  obtain ⟨rfl, hsz, hP, hK, hD, hZ, hN, hAO⟩ := hv
  subst hsz
  have hts := atoms_spec (ws := .code y cc nl none :: jtb) B.pre
  have hown : s.vm.findClass own = some m.cls := by rw [← ho]; exact findClass_of_methodNamed B.named
  have hin : meth.name = "<init>" := by rw [← hn]; exact (name_of_methodNamed B.named B.method).1
  have hb := body (p, l, e, { frames := fr, cells := mc, slots := ms, locals := lc }, s, m, av.toArray, below, meth, c, nl, D, cy, (fun _ => 0), st, va_A ws s.heap.size, 0, 0) ⟨⟨B.exec, B.bytes, hml, hown, fun w h => hts w (List.mem_cons_of_mem _ h), rfl, B.notSynchronized, B.returns, hK, hZ, hN, fun q h => Or.inr h, rfl, Nat.zero_le _, Nat.zero_le _⟩, hAO⟩ hin rfl rfl
  show W _ _ _ _ _ _ _ _ _ _ _ _ _ _ _ (entryFrame m av.toArray nl)
  rw [lg_entry_eq]
  exact hb s.heap [] _ (lv_entry av hav) hP hD.self va_S.rf
theorem c_vret {Γ : jG} {ws : va_W} {kc ks : Nat} {cc : ByteArray} {nl : Nat} {own : String} {rm : Room} {pc : Nat} {lv : List (Nat × Value)} (u : Nat → Nat) {W2 : (Nat → Nat) → va_W} (hC : cOK Γ cc nl own none rm) (hd : decode cc pc = .ok (.return_, 1)) (is : List Nat) (hs : is.map (fun i => ws[i]?) = (W2 u).map some) (hnd : va_nd is = true) : cJ Γ ws kc ks pc lv [] (cQ Γ kc ks W2) := by
  obtain ⟨p, l, e, R, s, m, args, below, meth, c, nL, D, cy, ad, st, A, kc9, ks9⟩ := Γ
  obtain ⟨⟨hx, hb, hml, hown, hts, hR, hlk, hrt, hK, hZ, hN, hA, hnl, hkc, hks⟩, hAO⟩ := hC
  intro H locs ls hl hP hD hS
  have hP9 : va_P D vwCl (W2 u) H := fun k q hq => by
    have h1 : (is.map (fun i => ws[i]?))[k]? = some (some q) := by rw [hs, List.getElem?_map, hq]; rfl
    rw [List.getElem?_map] at h1
    cases hi : is[k]? with
    | none => rw [hi] at h1; cases h1
    | some i => rw [hi] at h1; exact hP i q (Option.some.inj h1)
  have hD9 : va_D A (W2 u) := hD.sub is hnd hs
  exact W.vret hx hb hrt (fun t ht hW => ⟨⟨u, rfl, trivial, by rw [ht]; exact hP9, va_K.moved hW.alike hK, hD9⟩, hS.F ht⟩) hS.2.2 hd hlk

theorem c_callI {Γ : jG} {ws : va_W} {kc ks : Nat} {cc : ByteArray} {nl : Nat} {own : String} {ret : Option FieldType} {rm : Room} {pc pc' : Nat} {lv : List (Nat × Value)} {rest : List Value} {Q : State → Prop} {wc wr : va_W} {y : MethodName} {ccy : ByteArray} {nly fr mc ms lc index n : Nat} {W2 : (Nat → Nat) → va_W} {b : Nat} {stk : List Value} (As : List Value) (isC isR : List Nat) (hC : cOK Γ cc nl own ret rm) (hd : decode cc pc = .ok (.invokespecial index, 3)) (hp : pc + 3 = pc') (hM : cCt (jlo Γ) y ccy nly fr mc ms lc (cEo Γ) (.ref b :: As) wc W2) (hw : Cond.methodLink own index y ∈ jtb ∧ Cond.instanceMethod y ∈ jtb ∧ Cond.code y ccy nly none ∈ jtb ∧ Cond.initialized y.cls ∈ jtb ∧ y.name = "<init>" ∧ jdesc y n) (hr : (fr + 1 ≤ rm.frames ∧ 8 + (nly + 11) + lc ≤ rm.locals) ∧ As.length = n ∧ (rest.map fun v => v.category).sum ≤ 8 ∧ kc + mc ≤ rm.cells ∧ ks + ms ≤ rm.slots) (hic : isC.map (fun i => ws[i]?) = wc.map some) (hir : isR.map (fun i => ws[i]?) = wr.map some) (hnd : va_nd isC = true ∧ va_nd isR = true ∧ ∀ i ∈ isR, i ∉ isC) (hst : stk = As.reverse ++ .ref b :: rest) (k : ∀ u, cJ Γ (wr ++ W2 u) (kc + mc) (ks + ms) pc' lv rest Q) : cJ Γ ws kc ks pc lv stk Q := by
  subst hp
  subst hst
  obtain ⟨p, l, e, R, s, m, args, below, meth, c, nL, D, cy, ad, st, A, kc9, ks9⟩ := Γ
  obtain ⟨⟨hx, hb, hml, hown, hts, hR, hlk, hrt, hK, hZ, hN, hA, hnl, hkc, hks⟩, hAO⟩ := hC
  intro H locs ls hl hP hD hS
  have hC1 : isC.map (fun i => ws[i]?) = wc.map some := hic
  have hPc : va_P D vwCl wc H := fun k9 q hq => by
    have h1 : (isC.map (fun i => ws[i]?))[k9]? = some (some q) := by rw [hC1, List.getElem?_map, hq]; rfl
    rw [List.getElem?_map] at h1
    cases hi : isC[k9]? with
    | none => rw [hi] at h1; cases h1
    | some i => rw [hi] at h1; exact hP i q (Option.some.inj h1)
  have hDc : va_D A wc := hD.sub isC hnd.1 hC1
  have hFc := va_free (wc := wc) hD hS hA isC hC1
  have hU : ∀ U : State, U.heap = H → s.WarmedH U.vm → cPre (D, cy, st) wc H.size U := fun U hUh hW => ⟨by rw [hUh], by rw [hUh]; exact hPc, va_K.moved hW.alike hK, hDc.weaken (fun _ _ _ _ => trivial), by rw [hUh]; exact jZ_moved hW.alike (jZ_narrow (jZ_kept hZ (fun a h1 h2 => hS.2.1 a h1 h2)) hFc), jN_warm hW hN, jAO_moved hW.alike hAO⟩
  have hM1 := hM H.size
  obtain ⟨w1, w2, w3, w4, w5, w6⟩ := hw
  subst hR
  refine va_callv (va_runI (As := As) (rest := rest) ⟨hx, hb, hml, hown, hts⟩ hM1 (cwI n hts (jgood w3) rfl rfl rfl (hts _ w4) (hts _ w1) (hts _ w2) w5 w6 hr.1) ⟨cPre_blind, fun U hUh hW => ⟨rfl, hU U hUh hW⟩⟩ rfl hr.2.1 hl.1 rfl (lv_room hr.2.2.1) hd ⟨hr.2.2.2.1, hr.2.2.2.2⟩) hS (fun q _ h => hFc q h) hFc (fun u t H1 locs1 ht hvm hw9 hB hz1 hk1 hS1 => ?_)
  obtain ⟨hP1, hK1, hD1⟩ := hB
  rw [ht] at hP1
  obtain ⟨hP3, hD3⟩ := va_join (wr := wr) (w1 := W2 u) hP hD isC isR hC1 hir hnd.2.1 hnd.2.2 hk1 hFc hP1 hD1
  exact k u H1 locs1 ls hl hP3 hD3 hS1

theorem c_callIN {Γ : jG} {ws : va_W} {kc ks : Nat} {cc : ByteArray} {nl : Nat} {own : String} {ret : Option FieldType} {rm : Room} {pc pc' : Nat} {lv : List (Nat × Value)} {rest : List Value} {Q : State → Prop} {wc wr : va_W} {y : MethodName} {ccy : ByteArray} {nly fr mc ms lc index n : Nat} {W2 : (Nat → Nat) → va_W} {b : Nat} {stk : List Value} (As : List Value) (isC isR : List Nat) (hC : cOK Γ cc nl own ret rm) (hd : decode cc pc = .ok (.invokespecial index, 3)) (hp : pc + 3 = pc') (hM : cCt (jlo Γ) y ccy nly fr mc ms lc (cEo Γ) (.ref b :: As) wc W2) (hw : Cond.methodLinkNest own index y "HoursByPost" ∈ jnw ∧ Cond.instanceMethod y ∈ jtb ∧ Cond.code y ccy nly none ∈ jtb ∧ Cond.initialized y.cls ∈ jtb ∧ y.name = "<init>" ∧ jdesc y n) (hr : (fr + 1 ≤ rm.frames ∧ 8 + (nly + 11) + lc ≤ rm.locals) ∧ As.length = n ∧ (rest.map fun v => v.category).sum ≤ 8 ∧ kc + mc ≤ rm.cells ∧ ks + ms ≤ rm.slots) (hic : isC.map (fun i => ws[i]?) = wc.map some) (hir : isR.map (fun i => ws[i]?) = wr.map some) (hnd : va_nd isC = true ∧ va_nd isR = true ∧ ∀ i ∈ isR, i ∉ isC) (hst : stk = As.reverse ++ .ref b :: rest) (k : ∀ u, cJ Γ (wr ++ W2 u) (kc + mc) (ks + ms) pc' lv rest Q) : cJ Γ ws kc ks pc lv stk Q := by
  subst hp
  subst hst
  obtain ⟨p, l, e, R, s, m, args, below, meth, c, nL, D, cy, ad, st, A, kc9, ks9⟩ := Γ
  obtain ⟨⟨hx, hb, hml, hown, hts, hR, hlk, hrt, hK, hZ, hN, hA, hnl, hkc, hks⟩, hAO⟩ := hC
  intro H locs ls hl hP hD hS
  have hC1 : isC.map (fun i => ws[i]?) = wc.map some := hic
  have hPc : va_P D vwCl wc H := fun k9 q hq => by
    have h1 : (isC.map (fun i => ws[i]?))[k9]? = some (some q) := by rw [hC1, List.getElem?_map, hq]; rfl
    rw [List.getElem?_map] at h1
    cases hi : isC[k9]? with
    | none => rw [hi] at h1; cases h1
    | some i => rw [hi] at h1; exact hP i q (Option.some.inj h1)
  have hDc : va_D A wc := hD.sub isC hnd.1 hC1
  have hFc := va_free (wc := wc) hD hS hA isC hC1
  have hU : ∀ U : State, U.heap = H → s.WarmedH U.vm → cPre (D, cy, st) wc H.size U := fun U hUh hW => ⟨by rw [hUh], by rw [hUh]; exact hPc, va_K.moved hW.alike hK, hDc.weaken (fun _ _ _ _ => trivial), by rw [hUh]; exact jZ_moved hW.alike (jZ_narrow (jZ_kept hZ (fun a h1 h2 => hS.2.1 a h1 h2)) hFc), jN_warm hW hN, jAO_moved hW.alike hAO⟩
  have hM1 := hM H.size
  obtain ⟨w1, w2, w3, w4, w5, w6⟩ := hw
  subst hR
  refine va_callv (va_runIN (As := As) (rest := rest) ⟨hx, hb, hml, hown, hts⟩ hM1 (⟨va_cnB n hts (jgood w3) rfl rfl rfl (hN _ w1) (hts _ w4) w6 hr.1, w5, hts _ w2⟩) ⟨cPre_blind, fun U hUh hW => ⟨rfl, hU U hUh hW⟩⟩ rfl hr.2.1 hl.1 rfl (lv_room hr.2.2.1) hd ⟨hr.2.2.2.1, hr.2.2.2.2⟩) hS (fun q _ h => hFc q h) hFc (fun u t H1 locs1 ht hvm hw9 hB hz1 hk1 hS1 => ?_)
  obtain ⟨hP1, hK1, hD1⟩ := hB
  rw [ht] at hP1
  obtain ⟨hP3, hD3⟩ := va_join (wr := wr) (w1 := W2 u) hP hD isC isR hC1 hir hnd.2.1 hnd.2.2 hk1 hFc hP1 hD1
  exact k u H1 locs1 ls hl hP3 hD3 hS1

def va_AOA (ty : FieldType) (U : State) : Prop := (Cond.arrayOver (.array ty)).before #[] U = true
theorem va_AOA.use {ty : FieldType} {A : Array Value} {U : State} (h : va_AOA ty U) : (Cond.arrayOver (.array ty)).before A U = true := h
/-! ===== BEGIN new T[n][m]: the outer array a place, the inner ones among the pooled ===== -/
/-- f, but v at every address of l -/
def vr_up {α : Type} (f : Nat → α) (l : List Nat) (v : α) : Nat → α := fun a => if a ∈ l then v else f a
theorem vr_up_in {α : Type} {f : Nat → α} {l : List Nat} {v : α} {a : Nat} (h : a ∈ l) : vr_up f l v a = v := if_pos h
theorem vr_up_ne {α : Type} {f : Nat → α} {l : List Nat} {v : α} {a : Nat} (h : a ∉ l) : vr_up f l v a = f a := if_neg h
theorem vr_rows {L l : List Nat} {f : Nat → va_E} {e : va_E} (h : ∀ a, a ∈ l → a ∉ L) : va_pl L f ++ l.map (fun a => (a, e)) = va_pl (L ++ l) (vr_up f l e) := by
  unfold va_pl
  rw [List.map_append]
  congr 1
  · apply List.map_congr_left
    intro a ha
    rw [vr_up_ne (fun q => h a q ha)]
  · apply List.map_congr_left
    intro a ha
    rw [vr_up_in ha]
theorem vr_lay {X rows : va_W} {x : Nat × va_E} {pl : va_W} {D : va_G} {cl : List vw_C} {H : Heap} (hP : va_P D cl (((X ++ pl) ++ [x]) ++ rows) H) : va_P D cl ((X ++ [x]) ++ (pl ++ rows)) H := by
  rw [List.append_assoc (X ++ pl)] at hP
  have h := va_P.swap hP
  rw [← List.append_assoc X] at h
  have h2 := va_P.swap h
  rw [List.append_assoc (X ++ [x])] at h2
  exact h2
theorem vr_layD {X rows : va_W} {x : Nat × va_E} {pl : va_W} {A : Nat → Prop} (hD : va_D A (((X ++ pl) ++ [x]) ++ rows)) : va_D A ((X ++ [x]) ++ (pl ++ rows)) := by
  rw [List.append_assoc (X ++ pl)] at hD
  have h := va_D.swap hD
  rw [← List.append_assoc X] at h
  have h2 := va_D.swap h
  rw [List.append_assoc (X ++ [x])] at h2
  exact h2
theorem vr_outer (c : ClassId) (N h0 : Nat) : ∀ i : Nat, Jvm.Free.Multi.outerC c N h0 i = arrV c N (fun j => va_rf (if j < i then some (h0 + 1 + j) else none))
  | 0 => by
    show ({ cls := c, slots := Array.replicate N .null, vm := .none } : Cell) = _
    rw [arrV_new]
    refine congrArg (arrV c N) (funext fun j => ?_)
    simp [va_rf]
  | i + 1 => by
    show (Jvm.Free.Multi.outerC c N h0 i).setSlot i (.ref (h0 + 1 + i)) = _
    rw [vr_outer c N h0 i, arrV_store]
    refine congrArg (arrV c N) (funext fun j => ?_)
    by_cases e : j = i
    · subst e
      simp [updV, va_rf]
    · by_cases h : j < i
      · simp [updV, e, h, Nat.lt_succ_of_lt h]
      · simp [updV, e, h, show ¬ j < i + 1 by omega]
section VGM
variable {p : Program} {l : Launch} {e : Env} {R : Room} {s : State} {m : MethodId} {args : Array Value} {below : List Frame} {meth : Method} {c : Code} {H : Heap} {locs : List Loc} {cells slots : Nat} {Q : State → Prop}
variable {cc : ByteArray} {pc : Nat} {ls : Array Slot} {rest : List Value} {D : va_G} {cl : List vw_C} {A : Nat → Prop} {a : Nat} {tys : List (ClassId × FieldType)} {ws : va_W} {H0 : Heap}
theorem va_mna {X : va_W} {L : List Nat} {f : Nat → va_E} {cc : ByteArray} (hexec : p.tables.exec = Jvm.exec) (hb : c.code = cc) {own : String} {index : Nat} {ty : FieldType} {cy : ClassId} (hown : s.vm.findClass own = some m.cls) (hclink : (Cond.classLink own index ("[" ++ (FieldType.array ty).toString)).before args s = true) (hover : va_AOA ty s) (harr : (Cond.arrayClass ty).before args s = true) (hcy : s.vm.findClass (FieldType.array ty).toString = some cy)
    (hK : va_K D cl tys s) (hP : va_P D cl (X ++ va_pl L f) H) (hD : va_D A (X ++ va_pl L f)) (hS : va_S A H0 H locs) (hA : ∀ q, H0.size ≤ q → A q) {n k : Int32} {N' K' : Nat} {z : vp_A} (hn : ¬ n < 0) (hk : ¬ k < 0) (hN : n.toNatClampNeg = N') (hM : k.toNatClampNeg = K')
    (hb1 : N' * 4 ≤ 536870912) (hb2 : K' * componentBytes ty ≤ 536870912) (hb3 : K' ≤ 536870912) (hdf : fits ty (defaultValue ty) = true) (hdd : (defaultValue ty).isDefault = true) (hcells : cells + (1 + N') ≤ R.cells) (hslots : slots + (N' + N' * K') ≤ R.slots) (hz : ∀ c : ClassId, Jvm.Free.Multi.innerC c K' (defaultValue ty) = vp_cell c z) (hdg : decode cc pc = .ok (.multianewarray index 2, 4))
    (kk : ∀ (q : Nat) (r : Nat → Nat) (cA : ClassId) (H1 : Heap), (∀ i j : Nat, i < N' → j < N' → r i = r j → i = j) → (∀ i : Nat, i < N' → r i ∉ L) → va_K D cl (tys ++ [(cA, .array ty)]) s →
      va_P D cl ((X ++ [(q, .inl (cA, N', .inr (.inr (.inr (.inr (fun i => if i < N' then some (r i) else none))))))]) ++ va_pl (L ++ (List.range N').map r) (vr_up f ((List.range N').map r) (.inl (cy, z)))) H1 → va_D A ((X ++ [(q, .inl (cA, N', .inr (.inr (.inr (.inr (fun i => if i < N' then some (r i) else none))))))]) ++ va_pl (L ++ (List.range N').map r) (vr_up f ((List.range N').map r) (.inl (cy, z)))) → va_S A H0 H1 locs →
      W p l e R s m args below meth c H1 locs (cells + 1 + N') (slots + N' + N' * K') Q (F0 m (pc + 4) ls (.ref q :: rest))) : W p l e R s m args below meth c H locs cells slots Q (F0 m pc ls (.int k :: .int n :: rest)) := by
  subst hN
  subst hM
  intro T hT Xs
  obtain ⟨vm₁, cA, comp, -, fA, fC, hO, -, X', step⟩ := Xs.multianewarray2F hexec hown hclink (va_AOA.use hover) harr (g := F0 m pc ls (.int k :: .int n :: rest)) rfl (by rw [hb]; exact hdg) rfl hn hk hb1 hb2 hb3 hdf hdd hcells hslots
  have ec : some cy = some comp := hcy.symm.trans fC
  cases ec
  generalize hF : Jvm.Free.Multi.fill (T.setVm vm₁) cA cy n.toNatClampNeg k.toNatClampNeg (defaultValue ty) n.toNatClampNeg = F at X' step
  have hTh : (T.setVm vm₁).heap = H := hT
  obtain ⟨f1, f2, -, -⟩ := Jvm.Free.Multi.fill_facts (T.setVm vm₁) cA cy n.toNatClampNeg k.toNatClampNeg (defaultValue ty) n.toNatClampNeg
  rw [hF, hTh] at f1 f2
  have hold : ∀ x : Nat, x < H.size → F.heap[x]? = H[x]? := fun x hx => by
    have := Jvm.Free.Multi.fill_old (T.setVm vm₁) cA cy n.toNatClampNeg k.toNatClampNeg (defaultValue ty) (a := x) (by rw [hTh]; exact hx) n.toNatClampNeg
    rw [hF, hTh] at this
    exact this
  have hrow : ∀ j : Nat, j < n.toNatClampNeg → F.heap[H.size + 1 + j]? = some (vp_cell cy z) := fun j hj => by
    have := Jvm.Free.Multi.fill_inner (T.setVm vm₁) cA cy n.toNatClampNeg k.toNatClampNeg (defaultValue ty) n.toNatClampNeg j hj
    rw [hF, hTh, hz] at this
    exact this
  have hout : Jvm.Free.Multi.outerC cA n.toNatClampNeg H.size n.toNatClampNeg = vp_cell cA (n.toNatClampNeg, .inr (.inr (.inr (.inr (fun i => if i < n.toNatClampNeg then some (H.size + 1 + i) else none))))) := by
    rw [vp_cell_q]
    exact vr_outer cA n.toNatClampNeg H.size n.toNatClampNeg
  rw [hout] at f2
  have hlt : ∀ a, a ∈ L → a < H.size := fun a ha => by
    obtain ⟨k9, hk9⟩ := va_pl_get (X := X) (f := f) ha
    exact (hP k9 _ hk9).lt
  have hnl : ∀ i : Nat, i < n.toNatClampNeg → H.size + 1 + i ∉ L := fun i _ h => by
    have := hlt _ h
    omega
  have hnm : ∀ a, a ∈ (List.range n.toNatClampNeg).map (fun i => H.size + 1 + i) → a ∉ L := fun a ha h => by
    obtain ⟨i, -, rfl⟩ := List.mem_map.mp ha
    have := hlt _ h
    omega
  have hP0 : va_P D cl (X ++ va_pl L f) F.heap := hP.kept (fun k9 x hx => hold x.1 ((hP k9 x hx).lt))
  have hP1 : va_P D cl ((X ++ va_pl L f) ++ [(H.size, .inl (cA, n.toNatClampNeg, .inr (.inr (.inr (.inr (fun i => if i < n.toNatClampNeg then some (H.size + 1 + i) else none))))))]) F.heap := hP0.app (fun k9 x hx => by
    have h0 : k9 < 1 := (List.getElem?_eq_some_iff.mp hx).1
    rw [show k9 = 0 by omega] at hx
    cases hx
    exact f2)
  have hP2 : va_P D cl (((X ++ va_pl L f) ++ [(H.size, .inl (cA, n.toNatClampNeg, .inr (.inr (.inr (.inr (fun i => if i < n.toNatClampNeg then some (H.size + 1 + i) else none))))))]) ++ ((List.range n.toNatClampNeg).map (fun i => H.size + 1 + i)).map (fun a => (a, .inl (cy, z)))) F.heap := hP1.app (fun k9 x hx => by
    obtain ⟨a, ha, rfl⟩ := List.mem_map.mp (List.mem_of_getElem? hx)
    obtain ⟨i, hi, rfl⟩ := List.mem_map.mp ha
    exact hrow i (List.mem_range.mp hi))
  have hD2 : va_D A (((X ++ va_pl L f) ++ [(H.size, .inl (cA, n.toNatClampNeg, .inr (.inr (.inr (.inr (fun i => if i < n.toNatClampNeg then some (H.size + 1 + i) else none))))))]) ++ ((List.range n.toNatClampNeg).map (fun i => H.size + 1 + i)).map (fun a => (a, .inl (cy, z)))) := by
    have hD1 := hD.push (e := .inl (cA, n.toNatClampNeg, .inr (.inr (.inr (.inr (fun i => if i < n.toNatClampNeg then some (H.size + 1 + i) else none)))))) hP rfl (hA _ hS.1)
    generalize hW1 : (X ++ va_pl L f) ++ [(H.size, .inl (cA, n.toNatClampNeg, .inr (.inr (.inr (.inr (fun i => if i < n.toNatClampNeg then some (H.size + 1 + i) else none))))))] = W1 at hD1 hP1 ⊢
    have hle : ∀ (k9 : Nat) (x : Nat × va_E), W1[k9]? = some x → x.1 ≤ H.size := fun k9 x hx => by
      rw [← hW1] at hx
      by_cases hl : k9 < (X ++ va_pl L f).length
      · rw [List.getElem?_append_left hl] at hx
        exact Nat.le_of_lt ((hP k9 x hx).lt)
      · rw [List.getElem?_append_right (by omega)] at hx
        have h0 : k9 - (X ++ va_pl L f).length < 1 := (List.getElem?_eq_some_iff.mp hx).1
        rw [show k9 - (X ++ va_pl L f).length = 0 by omega] at hx
        cases hx
        exact Nat.le_refl _
    have hr : ∀ (k9 : Nat) (x : Nat × va_E), (((List.range n.toNatClampNeg).map (fun i => H.size + 1 + i)).map (fun a => ((a, .inl (cy, z)) : Nat × va_E)))[k9]? = some x → x.1 = H.size + 1 + k9 := fun k9 x hx => by
      rw [List.getElem?_map, List.getElem?_map] at hx
      by_cases h9 : k9 < n.toNatClampNeg
      · rw [List.getElem?_range h9] at hx
        cases hx
        rfl
      · have hn0 : (List.range n.toNatClampNeg)[k9]? = none := List.getElem?_eq_none (by rw [List.length_range]; omega)
        rw [hn0] at hx
        cases hx
    refine ⟨fun i j x y hi hj hxy => ?_, fun k9 x hx => ?_⟩
    · by_cases h1 : i < W1.length <;> by_cases h2 : j < W1.length
      · rw [List.getElem?_append_left h1] at hi
        rw [List.getElem?_append_left h2] at hj
        exact hD1.1 i j x y hi hj hxy
      · rw [List.getElem?_append_left h1] at hi
        rw [List.getElem?_append_right (by omega)] at hj
        have := hle _ _ hi
        have := hr _ _ hj
        omega
      · rw [List.getElem?_append_right (by omega)] at hi
        rw [List.getElem?_append_left h2] at hj
        have := hle _ _ hj
        have := hr _ _ hi
        omega
      · rw [List.getElem?_append_right (by omega)] at hi hj
        have := hr _ _ hi
        have := hr _ _ hj
        omega
    · by_cases h1 : k9 < W1.length
      · rw [List.getElem?_append_left h1] at hx
        exact hD1.2 k9 x hx
      · rw [List.getElem?_append_right (by omega)] at hx
        have := hr _ _ hx
        exact hA _ (by have := hS.1; omega)
  have hAr : ArrOfT s cA (.array ty) := fun N9 z9 => by
    obtain ⟨-, k9, hk9, cm9, hkk9⟩ := (hO 0 0 0).1
    exact ⟨(fun q hq => by cases hq), k9, hk9, cm9, hkk9⟩
  have hK2 : va_K D cl (tys ++ [(cA, .array ty)]) s := ⟨hK.1, fun k9 x hx => by
    by_cases hl : k9 < tys.length
    · rw [List.getElem?_append_left hl] at hx
      exact hK.2 k9 x hx
    · rw [List.getElem?_append_right (by omega)] at hx
      have h0 : k9 - tys.length < 1 := (List.getElem?_eq_some_iff.mp hx).1
      rw [show k9 - tys.length = 0 by omega] at hx
      cases hx
      exact ⟨hAr, fA⟩⟩
  obtain ⟨t, a1, b1⟩ := kk H.size (fun i => H.size + 1 + i) cA F.heap (fun i j _ _ h => by have h9 : H.size + 1 + i = H.size + 1 + j := h; omega) hnl hK2 (by rw [← vr_rows hnm]; exact vr_lay hP2) (by rw [← vr_rows hnm]; exact vr_layD hD2) ⟨by rw [f1]; have := hS.1; omega, fun x h1 h2 => (hold x (Nat.lt_of_lt_of_le h1 hS.1)).trans (hS.2.1 x h1 h2), hS.2.2⟩ F rfl X'
  refine ⟨t, step t ?_, b1⟩
  have e : T.heap.size = H.size := by rw [hT]
  rw [e]
  exact a1
end VGM

theorem c_mna {Γ : jG} {ws : va_W} {kc ks : Nat} {cc : ByteArray} {nl : Nat} {own : String} {ret : Option FieldType} {rm : Room} {pc pc' : Nat} {lv : List (Nat × Value)} {rest : List Value} {Q : State → Prop} {index N K : Nat} {n k9 : Int32} (hC : cOK Γ cc nl own ret rm) (hd : decode cc pc = .ok (.multianewarray index 2, 4)) (hp : pc + 4 = pc') (hw : Cond.classLink own index "[[I" ∈ jtb ∧ Cond.arrayClass .int ∈ jtb) (hn : (¬ n < 0 ∧ n.toNatClampNeg = N ∧ N ≤ 67108864) ∧ ¬ k9 < 0 ∧ k9.toNatClampNeg = K ∧ K ≤ 67108864) (hr : kc + (1 + N) ≤ rm.cells ∧ ks + (N + N * K) ≤ rm.slots) (k : ∀ (q : Nat) (r : Nat → Nat), cJ Γ (ws ++ [(q, .inl (jcy Γ 4, N, .inr (.inr (.inr (.inr (fun i => if i < N then some (r i) else none))))))] ++ (List.range N).map (fun i => (r i, .inl (jcy Γ 0, K, .inl (fun _ => 0))))) (kc + 1 + N) (ks + N + N * K) pc' lv (.ref q :: rest) Q) : cJ Γ ws kc ks pc lv (.int k9 :: .int n :: rest) Q := by
  subst hp
  obtain ⟨p, l, e, R, s, m, args, below, meth, c, nL, D, cy, ad, st, A, kc9, ks9⟩ := Γ
  obtain ⟨⟨hx, hb, hml, hown, hts, hR, hlk, hrt, hK, hZ, hN, hA, hnl, hkc, hks⟩, hAO⟩ := hC
  intro H locs ls hl hP hD hS
  obtain ⟨w1, w2⟩ := hw
  subst hR
  have hP0 : va_P D vwCl (ws ++ va_pl [] (fun _ => .inr (0, []))) H := by show va_P D vwCl (ws ++ []) H; rw [List.append_nil]; exact hP
  have hD0 : va_D A (ws ++ va_pl [] (fun _ => .inr (0, []))) := by show va_D A (ws ++ []); rw [List.append_nil]; exact hD
  refine va_mna (X := ws) (L := []) (f := fun _ => .inr (0, [])) (ty := .int) (cy := cy 0) (z := (K, .inl (fun _ => 0))) hx hb hown (hts _ w1) hAO.2 (hts _ w2) (hK.2 0 (cy 0, .int) rfl).2 hK hP0 hD0 hS hA hn.1.1 hn.2.1 hn.1.2.1 hn.2.2.1 (by have := hn.1.2.2; omega) (by show K * 4 ≤ _; have := hn.2.2.2; omega) (by have := hn.2.2.2; omega) rfl rfl hr.1 hr.2 (fun c9 => by rw [vp_cell_i]; exact arrV_new _ _ _) hd (fun q r cA H1 _ _ hK1 hP1 hD1 hS1 => ?_)
  have e1 : cA = cy 4 := Option.some.inj ((hK1.2 5 (cA, .array .int) rfl).2.symm.trans (hK.2 4 (cy 4, .array .int) rfl).2)
  subst e1
  have e2 : va_pl ([] ++ (List.range N).map r) (vr_up (fun _ => (.inr (0, []) : va_E)) ((List.range N).map r) (.inl (cy 0, K, .inl (fun _ => 0)))) = (List.range N).map (fun i => (r i, .inl (cy 0, K, .inl (fun _ => 0)))) := by
    unfold va_pl
    rw [List.nil_append, List.map_map]
    apply List.map_congr_left
    intro i hi
    show (r i, vr_up _ _ _ (r i)) = _
    rw [vr_up_in (List.mem_map_of_mem hi)]
  rw [e2] at hP1 hD1
  exact k q r H1 locs ls hl hP1 hD1 hS1
theorem c_fill {Γ : jG} {ws : va_W} {kc ks : Nat} {cc : ByteArray} {nl : Nat} {own : String} {ret : Option FieldType} {rm : Room} {pc pc' : Nat} {lv : List (Nat × Value)} {rest : List Value} {Q : State → Prop} {ws' : va_W} (q1 : Nat) {index N a : Nat} {g : Nat → Int32} {v : Int32} (hC : cOK Γ cc nl own ret rm) (hd : decode cc pc = .ok (.invokestatic index, 3)) (hp : pc + 3 = pc') (hN9 : N < 30000) (hw : jcwS own index yJ7_fill_53178 cJ7_fill_53178 4 none 2) (ha : ws[q1]? = some (a, .inl (jcy Γ 0, N, .inl g))) (hr : (0 + 1 ≤ rm.frames ∧ 8 + (4 + 11) + 0 ≤ rm.locals) ∧ (rest.map fun v => v.category).sum ≤ 8 ∧ kc ≤ rm.cells ∧ ks ≤ rm.slots) (hws : ws.set q1 (a, .inl (jcy Γ 0, N, .inl (fun k => if k < N then v else g k))) = ws') (k : cJ Γ ws' kc ks pc' lv rest Q) : cJ Γ ws kc ks pc lv (.int v :: .ref a :: rest) Q := by
  subst hp
  subst hws
  obtain ⟨p, l, e, R, s, m, args, below, meth, c, nL, D, cy, ad, st, A, kc9, ks9⟩ := Γ
  obtain ⟨⟨hx, hb, hml, hown, hts, hR, hlk, hrt, hK, hZ, hN, hA, hnl, hkc, hks⟩, hAO⟩ := hC
  intro H locs ls hl hP hD hS
  have hM := t_J7_fill_53178 l (D, cy, (fun _ => a), st) (G := [(0, N)]) (Rf := fun _ _ => none) (o1 := 0) (n1 := N) (a2 := v) rfl (M := (fun _ => g, fun _ _ => 0)) (fill_ok hN9) H.size
  have hwc : jws cy (fun _ => a) (fun _ _ => none) (fun _ => g, fun _ _ => 0) [(0, N)] = [(a, .inl (cy 0, N, .inl g))] := rfl
  have hC1 : [q1].map (fun i => ws[i]?) = ([(a, .inl (cy 0, N, .inl g))] : va_W).map some := by
    show [ws[q1]?] = _
    rw [ha]
    rfl
  have hFc := va_free (wc := [(a, .inl (cy 0, N, .inl g))]) hD hS hA [q1] hC1
  have hU : ∀ U : State, U.heap = H → s.WarmedH U.vm → jPre (D, cy, (fun _ => a), st) (fun _ _ => none) [(0, N)] (fun _ => g, fun _ _ => 0) H.size U := fun U hUh hW => ⟨by rw [hUh], by rw [hUh]; intro k9 q hq; rw [hwc] at hq; have h0 : k9 < 1 := (List.getElem?_eq_some_iff.mp hq).1; rw [show k9 = 0 by omega] at hq; cases hq; exact hP q1 _ ha, va_K.moved hW.alike hK, ⟨fun i j p9 q9 h1 h2 _ => by have h3 : i < 1 := (List.getElem?_eq_some_iff.mp h1).1; have h4 : j < 1 := (List.getElem?_eq_some_iff.mp h2).1; omega, fun _ _ _ => trivial⟩, by rw [hUh]; exact jZ_moved hW.alike (jZ_narrow (jZ_kept hZ (fun a h1 h2 => hS.2.1 a h1 h2)) hFc), jN_warm hW hN⟩
  obtain ⟨w1, w2, w3, w5, w7⟩ := hw
  have hGI : GoodIn jtb (va_wsS own index yJ7_fill_53178 (.code yJ7_fill_53178 cJ7_fill_53178 4 none :: jtb)) := fun w hw => by
    rcases List.mem_append.mp hw with hw | hw
    · simp only [List.mem_cons, List.mem_nil_iff, or_false] at hw
      rcases hw with rfl | rfl | rfl
      · exact ⟨w1, jtb_good w1⟩
      · exact ⟨w2, jtb_good w2⟩
      · exact ⟨w3, jtb_good w3⟩
    · exact jgood w5 w hw
  subst hR
  refine va_callv (va_runS (As := [.ref a, .int v]) (rest := rest) ⟨hx, hb, hml, hown, hts⟩ hM (va_cwS 2 hts hGI rfl rfl rfl w7 hr.1) ⟨jPre_blind, fun U hUh hW => ⟨rfl, hU U hUh hW⟩⟩ rfl rfl hl.1 rfl (lv_room hr.2.1) hd ⟨hr.2.2.1, hr.2.2.2⟩) hS (fun q _ h => hFc q h) hFc (fun u t H1 locs1 ht hvm hw9 hB hz1 hk1 hS1 => ?_)
  obtain ⟨hP1, hK1, hD1⟩ := hB
  rw [ht] at hP1
  have hcell : va_at D vwCl (a, .inl (cy 0, N, .inl (fun k => if k < N then v else g k))) H1 := by
    have h9 := hP1 0 _ rfl
    have e9 : (gi (jff (fun _ => g, fun _ _ => 0) 0 0 N v) 0) = (fun k => if k < N then v else g k) := by
      funext k9
      rw [gi_jff]
      simp [gi]
    have h8 : va_at D vwCl (a, .inl (cy 0, N, .inl (gi (jff (fun _ => g, fun _ _ => 0) 0 0 N v) 0))) H1 := h9
    rw [e9] at h8
    exact h8
  refine k H1 locs1 ls hl (fun k9 q hq => ?_) (hD.set ha) hS1
  by_cases e : k9 = q1
  · rw [e] at hq
    rw [List.getElem?_set_self (List.getElem?_eq_some_iff.mp ha).1] at hq
    cases hq
    exact hcell
  · rw [List.getElem?_set_ne (Ne.symm e)] at hq
    refine (hP k9 q hq).kept (hk1 q.1 (hP k9 q hq).lt (fun h => ?_))
    rcases h with ⟨k8, e8, h8⟩ | h8
    · rw [hwc] at h8
      have h0 : k8 < 1 := (List.getElem?_eq_some_iff.mp h8).1
      rw [show k8 = 0 by omega] at h8
      have h7 : a = q.1 := congrArg Prod.fst (Option.some.inj h8)
      exact e (hD.1 k9 q1 q _ hq ha h7.symm)
    · exact absurd (hP k9 q hq).lt (Nat.not_lt.mpr h8)
