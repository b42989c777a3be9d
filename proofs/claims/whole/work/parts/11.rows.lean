theorem j_iconst {Γ : jG} {G : List (Nat × Nat)} {Rf : Nat → Nat → Option Nat} {cc : ByteArray} {nl : Nat} {own : String} {ret : Option FieldType} {rm : Room} {pc pc' : Nat} {lv : List (Nat × Value)} {rest : List Value} {M : jM} {Q : State → Prop} {n : Int} {v : Int32} (hC : jOK Γ cc nl own ret rm) (hd : decode cc pc = .ok (.iconst n, 1)) (hp : pc + 1 = pc') (hv : Int32.ofInt n = v) (k : jJ Γ G Rf pc' lv (.int v :: rest) M Q) : jJ Γ G Rf pc lv (rest) M Q := by
  subst hp
  obtain ⟨p, l, e, R, s, m, args, below, meth, c, nL, D, cy, ad, st, A, kc, ks⟩ := Γ
  obtain ⟨hx, hb, hml, hown, hts, hR, hlk, hrt, hK, hZ, hN, hA, hnl, hkc, hks⟩ := hC
  intro H locs ls hl hP hD hS
  exact lv_iconst hx hb hd hv (k H locs ls hl hP hD hS)

theorem j_bipush {Γ : jG} {G : List (Nat × Nat)} {Rf : Nat → Nat → Option Nat} {cc : ByteArray} {nl : Nat} {own : String} {ret : Option FieldType} {rm : Room} {pc pc' : Nat} {lv : List (Nat × Value)} {rest : List Value} {M : jM} {Q : State → Prop} {n : Int} {v : Int32} (hC : jOK Γ cc nl own ret rm) (hd : decode cc pc = .ok (.bipush n, 2)) (hp : pc + 2 = pc') (hv : (Int8.ofInt n).toInt32 = v) (k : jJ Γ G Rf pc' lv (.int v :: rest) M Q) : jJ Γ G Rf pc lv (rest) M Q := by
  subst hp
  obtain ⟨p, l, e, R, s, m, args, below, meth, c, nL, D, cy, ad, st, A, kc, ks⟩ := Γ
  obtain ⟨hx, hb, hml, hown, hts, hR, hlk, hrt, hK, hZ, hN, hA, hnl, hkc, hks⟩ := hC
  intro H locs ls hl hP hD hS
  exact lv_bipush hx hb hd hv (k H locs ls hl hP hD hS)

theorem j_sipush {Γ : jG} {G : List (Nat × Nat)} {Rf : Nat → Nat → Option Nat} {cc : ByteArray} {nl : Nat} {own : String} {ret : Option FieldType} {rm : Room} {pc pc' : Nat} {lv : List (Nat × Value)} {rest : List Value} {M : jM} {Q : State → Prop} {n : Int} {v : Int32} (hC : jOK Γ cc nl own ret rm) (hd : decode cc pc = .ok (.sipush n, 3)) (hp : pc + 3 = pc') (hv : (Int16.ofInt n).toInt32 = v) (k : jJ Γ G Rf pc' lv (.int v :: rest) M Q) : jJ Γ G Rf pc lv (rest) M Q := by
  subst hp
  obtain ⟨p, l, e, R, s, m, args, below, meth, c, nL, D, cy, ad, st, A, kc, ks⟩ := Γ
  obtain ⟨hx, hb, hml, hown, hts, hR, hlk, hrt, hK, hZ, hN, hA, hnl, hkc, hks⟩ := hC
  intro H locs ls hl hP hD hS
  exact lv_sipush hx hb hd hv (k H locs ls hl hP hD hS)

theorem j_lconst {Γ : jG} {G : List (Nat × Nat)} {Rf : Nat → Nat → Option Nat} {cc : ByteArray} {nl : Nat} {own : String} {ret : Option FieldType} {rm : Room} {pc pc' : Nat} {lv : List (Nat × Value)} {rest : List Value} {M : jM} {Q : State → Prop} {n : Fin 2} {v : Int64} (hC : jOK Γ cc nl own ret rm) (hd : decode cc pc = .ok (.lconst n, 1)) (hp : pc + 1 = pc') (hv : Int64.ofNat (n : Nat) = v) (k : jJ Γ G Rf pc' lv (.long v :: rest) M Q) : jJ Γ G Rf pc lv (rest) M Q := by
  subst hp
  obtain ⟨p, l, e, R, s, m, args, below, meth, c, nL, D, cy, ad, st, A, kc, ks⟩ := Γ
  obtain ⟨hx, hb, hml, hown, hts, hR, hlk, hrt, hK, hZ, hN, hA, hnl, hkc, hks⟩ := hC
  intro H locs ls hl hP hD hS
  exact lv_lconst hx hb hd hv (k H locs ls hl hP hD hS)

theorem j_ldc {Γ : jG} {G : List (Nat × Nat)} {Rf : Nat → Nat → Option Nat} {cc : ByteArray} {nl : Nat} {own : String} {ret : Option FieldType} {rm : Room} {pc pc' : Nat} {lv : List (Nat × Value)} {rest : List Value} {M : jM} {Q : State → Prop} {index : Nat} {v : Int32} (hC : jOK Γ cc nl own ret rm) (hd : decode cc pc = .ok (.ldc index, 2)) (hp : pc + 2 = pc') (hw : Cond.constant own index v ∈ jtb) (k : jJ Γ G Rf pc' lv (.int v :: rest) M Q) : jJ Γ G Rf pc lv (rest) M Q := by
  subst hp
  obtain ⟨p, l, e, R, s, m, args, below, meth, c, nL, D, cy, ad, st, A, kc, ks⟩ := Γ
  obtain ⟨hx, hb, hml, hown, hts, hR, hlk, hrt, hK, hZ, hN, hA, hnl, hkc, hks⟩ := hC
  intro H locs ls hl hP hD hS
  exact lv_ldc hx hb hown (hts _ hw) hd (k H locs ls hl hP hD hS)

theorem j_ldcw {Γ : jG} {G : List (Nat × Nat)} {Rf : Nat → Nat → Option Nat} {cc : ByteArray} {nl : Nat} {own : String} {ret : Option FieldType} {rm : Room} {pc pc' : Nat} {lv : List (Nat × Value)} {rest : List Value} {M : jM} {Q : State → Prop} {index : Nat} {v : Int32} (hC : jOK Γ cc nl own ret rm) (hd : decode cc pc = .ok (.ldc_w index, 3)) (hp : pc + 3 = pc') (hw : Cond.constant own index v ∈ jtb) (k : jJ Γ G Rf pc' lv (.int v :: rest) M Q) : jJ Γ G Rf pc lv (rest) M Q := by
  subst hp
  obtain ⟨p, l, e, R, s, m, args, below, meth, c, nL, D, cy, ad, st, A, kc, ks⟩ := Γ
  obtain ⟨hx, hb, hml, hown, hts, hR, hlk, hrt, hK, hZ, hN, hA, hnl, hkc, hks⟩ := hC
  intro H locs ls hl hP hD hS
  exact lv_ldcw hx hb hown (hts _ hw) hd (k H locs ls hl hP hD hS)

theorem j_ldc2 {Γ : jG} {G : List (Nat × Nat)} {Rf : Nat → Nat → Option Nat} {cc : ByteArray} {nl : Nat} {own : String} {ret : Option FieldType} {rm : Room} {pc pc' : Nat} {lv : List (Nat × Value)} {rest : List Value} {M : jM} {Q : State → Prop} {index : Nat} {v : Int64} (hC : jOK Γ cc nl own ret rm) (hd : decode cc pc = .ok (.ldc2_w index, 3)) (hp : pc + 3 = pc') (hw : Cond.constantLong own index v ∈ jtb) (k : jJ Γ G Rf pc' lv (.long v :: rest) M Q) : jJ Γ G Rf pc lv (rest) M Q := by
  subst hp
  obtain ⟨p, l, e, R, s, m, args, below, meth, c, nL, D, cy, ad, st, A, kc, ks⟩ := Γ
  obtain ⟨hx, hb, hml, hown, hts, hR, hlk, hrt, hK, hZ, hN, hA, hnl, hkc, hks⟩ := hC
  intro H locs ls hl hP hD hS
  exact lv_ldc2 hx hb hown (hts _ hw) hd (k H locs ls hl hP hD hS)

theorem j_iload {Γ : jG} {G : List (Nat × Nat)} {Rf : Nat → Nat → Option Nat} {cc : ByteArray} {nl : Nat} {own : String} {ret : Option FieldType} {rm : Room} {pc pc' : Nat} {lv : List (Nat × Value)} {rest : List Value} {M : jM} {Q : State → Prop} (q : Nat) {i : Nat} {x : Int32} (hC : jOK Γ cc nl own ret rm) (hd : decode cc pc = .ok (.iload i, 2)) (hp : pc + 2 = pc') (hq : lv[q]? = some (i, .int x)) (k : jJ Γ G Rf pc' lv (.int x :: rest) M Q) : jJ Γ G Rf pc lv (rest) M Q := by
  subst hp
  obtain ⟨p, l, e, R, s, m, args, below, meth, c, nL, D, cy, ad, st, A, kc, ks⟩ := Γ
  obtain ⟨hx, hb, hml, hown, hts, hR, hlk, hrt, hK, hZ, hN, hA, hnl, hkc, hks⟩ := hC
  intro H locs ls hl hP hD hS
  exact lv_iload hx hb hd (lv_at hl q hq) (k H locs ls hl hP hD hS)

theorem j_iload_n {Γ : jG} {G : List (Nat × Nat)} {Rf : Nat → Nat → Option Nat} {cc : ByteArray} {nl : Nat} {own : String} {ret : Option FieldType} {rm : Room} {pc pc' : Nat} {lv : List (Nat × Value)} {rest : List Value} {M : jM} {Q : State → Prop} (q : Nat) {f : Fin 4} {x : Int32} (hC : jOK Γ cc nl own ret rm) (hd : decode cc pc = .ok (.iload_n f, 1)) (hp : pc + 1 = pc') (hq : lv[q]? = some ((f : Nat), .int x)) (k : jJ Γ G Rf pc' lv (.int x :: rest) M Q) : jJ Γ G Rf pc lv (rest) M Q := by
  subst hp
  obtain ⟨p, l, e, R, s, m, args, below, meth, c, nL, D, cy, ad, st, A, kc, ks⟩ := Γ
  obtain ⟨hx, hb, hml, hown, hts, hR, hlk, hrt, hK, hZ, hN, hA, hnl, hkc, hks⟩ := hC
  intro H locs ls hl hP hD hS
  exact lv_iload_n hx hb hd rfl (lv_at hl q hq) (k H locs ls hl hP hD hS)

theorem j_lload {Γ : jG} {G : List (Nat × Nat)} {Rf : Nat → Nat → Option Nat} {cc : ByteArray} {nl : Nat} {own : String} {ret : Option FieldType} {rm : Room} {pc pc' : Nat} {lv : List (Nat × Value)} {rest : List Value} {M : jM} {Q : State → Prop} (q : Nat) {i : Nat} {x : Int64} (hC : jOK Γ cc nl own ret rm) (hd : decode cc pc = .ok (.lload i, 2)) (hp : pc + 2 = pc') (hq : lv[q]? = some (i, .long x)) (k : jJ Γ G Rf pc' lv (.long x :: rest) M Q) : jJ Γ G Rf pc lv (rest) M Q := by
  subst hp
  obtain ⟨p, l, e, R, s, m, args, below, meth, c, nL, D, cy, ad, st, A, kc, ks⟩ := Γ
  obtain ⟨hx, hb, hml, hown, hts, hR, hlk, hrt, hK, hZ, hN, hA, hnl, hkc, hks⟩ := hC
  intro H locs ls hl hP hD hS
  exact lv_lload hx hb hd (lv_at hl q hq) (k H locs ls hl hP hD hS)

theorem j_lload_n {Γ : jG} {G : List (Nat × Nat)} {Rf : Nat → Nat → Option Nat} {cc : ByteArray} {nl : Nat} {own : String} {ret : Option FieldType} {rm : Room} {pc pc' : Nat} {lv : List (Nat × Value)} {rest : List Value} {M : jM} {Q : State → Prop} (q : Nat) {f : Fin 4} {x : Int64} (hC : jOK Γ cc nl own ret rm) (hd : decode cc pc = .ok (.lload_n f, 1)) (hp : pc + 1 = pc') (hq : lv[q]? = some ((f : Nat), .long x)) (k : jJ Γ G Rf pc' lv (.long x :: rest) M Q) : jJ Γ G Rf pc lv (rest) M Q := by
  subst hp
  obtain ⟨p, l, e, R, s, m, args, below, meth, c, nL, D, cy, ad, st, A, kc, ks⟩ := Γ
  obtain ⟨hx, hb, hml, hown, hts, hR, hlk, hrt, hK, hZ, hN, hA, hnl, hkc, hks⟩ := hC
  intro H locs ls hl hP hD hS
  exact lv_lload_n hx hb hd rfl (lv_at hl q hq) (k H locs ls hl hP hD hS)

theorem j_aload {Γ : jG} {G : List (Nat × Nat)} {Rf : Nat → Nat → Option Nat} {cc : ByteArray} {nl : Nat} {own : String} {ret : Option FieldType} {rm : Room} {pc pc' : Nat} {lv : List (Nat × Value)} {rest : List Value} {M : jM} {Q : State → Prop} (q : Nat) {i a : Nat} (hC : jOK Γ cc nl own ret rm) (hd : decode cc pc = .ok (.aload i, 2)) (hp : pc + 2 = pc') (hq : lv[q]? = some (i, .ref a)) (k : jJ Γ G Rf pc' lv (.ref a :: rest) M Q) : jJ Γ G Rf pc lv (rest) M Q := by
  subst hp
  obtain ⟨p, l, e, R, s, m, args, below, meth, c, nL, D, cy, ad, st, A, kc, ks⟩ := Γ
  obtain ⟨hx, hb, hml, hown, hts, hR, hlk, hrt, hK, hZ, hN, hA, hnl, hkc, hks⟩ := hC
  intro H locs ls hl hP hD hS
  exact lv_aload hx hb hd (lv_at hl q hq) (k H locs ls hl hP hD hS)

theorem j_aload_n {Γ : jG} {G : List (Nat × Nat)} {Rf : Nat → Nat → Option Nat} {cc : ByteArray} {nl : Nat} {own : String} {ret : Option FieldType} {rm : Room} {pc pc' : Nat} {lv : List (Nat × Value)} {rest : List Value} {M : jM} {Q : State → Prop} (q : Nat) {f : Fin 4} {a : Nat} (hC : jOK Γ cc nl own ret rm) (hd : decode cc pc = .ok (.aload_n f, 1)) (hp : pc + 1 = pc') (hq : lv[q]? = some ((f : Nat), .ref a)) (k : jJ Γ G Rf pc' lv (.ref a :: rest) M Q) : jJ Γ G Rf pc lv (rest) M Q := by
  subst hp
  obtain ⟨p, l, e, R, s, m, args, below, meth, c, nL, D, cy, ad, st, A, kc, ks⟩ := Γ
  obtain ⟨hx, hb, hml, hown, hts, hR, hlk, hrt, hK, hZ, hN, hA, hnl, hkc, hks⟩ := hC
  intro H locs ls hl hP hD hS
  exact lv_aload_n hx hb hd rfl (lv_at hl q hq) (k H locs ls hl hP hD hS)

theorem j_istore {Γ : jG} {G : List (Nat × Nat)} {Rf : Nat → Nat → Option Nat} {cc : ByteArray} {nl : Nat} {own : String} {ret : Option FieldType} {rm : Room} {pc pc' : Nat} {lv : List (Nat × Value)} {rest : List Value} {M : jM} {Q : State → Prop} {i : Nat} {x v : Int32} {lv' : List (Nat × Value)} (hC : jOK Γ cc nl own ret rm) (hd : decode cc pc = .ok (.istore i, 2)) (hp : pc + 2 = pc') (hv : x = v) (hn : i < nl) (hlv : (i, Value.int v) :: lv.filter (fun q => !(q.1 == i) && !(q.1 + 1 == i && q.2.category == 2)) = lv') (k : jJ Γ G Rf pc' lv' rest M Q) : jJ Γ G Rf pc lv (.int x :: rest) M Q := by
  subst hp
  subst hv
  obtain ⟨p, l, e, R, s, m, args, below, meth, c, nL, D, cy, ad, st, A, kc, ks⟩ := Γ
  obtain ⟨hx, hb, hml, hown, hts, hR, hlk, hrt, hK, hZ, hN, hA, hnl, hkc, hks⟩ := hC
  intro H locs ls hl hP hD hS
  exact lv_istore hx hb hd hl (by rw [hnl]; exact hn) hlv (fun ls hl => k H locs ls hl hP hD hS)

theorem j_istore_n {Γ : jG} {G : List (Nat × Nat)} {Rf : Nat → Nat → Option Nat} {cc : ByteArray} {nl : Nat} {own : String} {ret : Option FieldType} {rm : Room} {pc pc' : Nat} {lv : List (Nat × Value)} {rest : List Value} {M : jM} {Q : State → Prop} {f : Fin 4} {x v : Int32} {lv' : List (Nat × Value)} (hC : jOK Γ cc nl own ret rm) (hd : decode cc pc = .ok (.istore_n f, 1)) (hp : pc + 1 = pc') (hv : x = v) (hn : (f : Nat) < nl) (hlv : ((f : Nat), Value.int v) :: lv.filter (fun q => !(q.1 == (f : Nat)) && !(q.1 + 1 == (f : Nat) && q.2.category == 2)) = lv') (k : jJ Γ G Rf pc' lv' rest M Q) : jJ Γ G Rf pc lv (.int x :: rest) M Q := by
  subst hp
  subst hv
  obtain ⟨p, l, e, R, s, m, args, below, meth, c, nL, D, cy, ad, st, A, kc, ks⟩ := Γ
  obtain ⟨hx, hb, hml, hown, hts, hR, hlk, hrt, hK, hZ, hN, hA, hnl, hkc, hks⟩ := hC
  intro H locs ls hl hP hD hS
  exact lv_istore_n hx hb hd rfl hl (by rw [hnl]; exact hn) hlv (fun ls hl => k H locs ls hl hP hD hS)

theorem j_lstore {Γ : jG} {G : List (Nat × Nat)} {Rf : Nat → Nat → Option Nat} {cc : ByteArray} {nl : Nat} {own : String} {ret : Option FieldType} {rm : Room} {pc pc' : Nat} {lv : List (Nat × Value)} {rest : List Value} {M : jM} {Q : State → Prop} {i : Nat} {x v : Int64} {lv' : List (Nat × Value)} (hC : jOK Γ cc nl own ret rm) (hd : decode cc pc = .ok (.lstore i, 2)) (hp : pc + 2 = pc') (hv : x = v) (hn : i + 1 < nl) (hlv : (i, Value.long v) :: lv.filter (fun q => !(q.1 == i) && (!(q.1 == i + 1) && !(q.1 + 1 == i && q.2.category == 2))) = lv') (k : jJ Γ G Rf pc' lv' rest M Q) : jJ Γ G Rf pc lv (.long x :: rest) M Q := by
  subst hp
  subst hv
  obtain ⟨p, l, e, R, s, m, args, below, meth, c, nL, D, cy, ad, st, A, kc, ks⟩ := Γ
  obtain ⟨hx, hb, hml, hown, hts, hR, hlk, hrt, hK, hZ, hN, hA, hnl, hkc, hks⟩ := hC
  intro H locs ls hl hP hD hS
  exact lv_lstore hx hb hd hl (by rw [hnl]; exact hn) hlv (fun ls hl => k H locs ls hl hP hD hS)

theorem j_lstore_n {Γ : jG} {G : List (Nat × Nat)} {Rf : Nat → Nat → Option Nat} {cc : ByteArray} {nl : Nat} {own : String} {ret : Option FieldType} {rm : Room} {pc pc' : Nat} {lv : List (Nat × Value)} {rest : List Value} {M : jM} {Q : State → Prop} {f : Fin 4} {x v : Int64} {lv' : List (Nat × Value)} (hC : jOK Γ cc nl own ret rm) (hd : decode cc pc = .ok (.lstore_n f, 1)) (hp : pc + 1 = pc') (hv : x = v) (hn : (f : Nat) + 1 < nl) (hlv : ((f : Nat), Value.long v) :: lv.filter (fun q => !(q.1 == (f : Nat)) && (!(q.1 == (f : Nat) + 1) && !(q.1 + 1 == (f : Nat) && q.2.category == 2))) = lv') (k : jJ Γ G Rf pc' lv' rest M Q) : jJ Γ G Rf pc lv (.long x :: rest) M Q := by
  subst hp
  subst hv
  obtain ⟨p, l, e, R, s, m, args, below, meth, c, nL, D, cy, ad, st, A, kc, ks⟩ := Γ
  obtain ⟨hx, hb, hml, hown, hts, hR, hlk, hrt, hK, hZ, hN, hA, hnl, hkc, hks⟩ := hC
  intro H locs ls hl hP hD hS
  exact lv_lstore_n hx hb hd rfl hl (by rw [hnl]; exact hn) hlv (fun ls hl => k H locs ls hl hP hD hS)

theorem j_astore {Γ : jG} {G : List (Nat × Nat)} {Rf : Nat → Nat → Option Nat} {cc : ByteArray} {nl : Nat} {own : String} {ret : Option FieldType} {rm : Room} {pc pc' : Nat} {lv : List (Nat × Value)} {rest : List Value} {M : jM} {Q : State → Prop} {i : Nat} {x : Nat} {lv' : List (Nat × Value)} (hC : jOK Γ cc nl own ret rm) (hd : decode cc pc = .ok (.astore i, 2)) (hp : pc + 2 = pc') (hn : i < nl) (hlv : (i, Value.ref x) :: lv.filter (fun q => !(q.1 == i) && !(q.1 + 1 == i && q.2.category == 2)) = lv') (k : jJ Γ G Rf pc' lv' rest M Q) : jJ Γ G Rf pc lv (.ref x :: rest) M Q := by
  subst hp
  obtain ⟨p, l, e, R, s, m, args, below, meth, c, nL, D, cy, ad, st, A, kc, ks⟩ := Γ
  obtain ⟨hx, hb, hml, hown, hts, hR, hlk, hrt, hK, hZ, hN, hA, hnl, hkc, hks⟩ := hC
  intro H locs ls hl hP hD hS
  exact lv_astore hx hb hd hl (by rw [hnl]; exact hn) hlv (fun ls hl => k H locs ls hl hP hD hS)

theorem j_astore_n {Γ : jG} {G : List (Nat × Nat)} {Rf : Nat → Nat → Option Nat} {cc : ByteArray} {nl : Nat} {own : String} {ret : Option FieldType} {rm : Room} {pc pc' : Nat} {lv : List (Nat × Value)} {rest : List Value} {M : jM} {Q : State → Prop} {f : Fin 4} {x : Nat} {lv' : List (Nat × Value)} (hC : jOK Γ cc nl own ret rm) (hd : decode cc pc = .ok (.astore_n f, 1)) (hp : pc + 1 = pc') (hn : (f : Nat) < nl) (hlv : ((f : Nat), Value.ref x) :: lv.filter (fun q => !(q.1 == (f : Nat)) && !(q.1 + 1 == (f : Nat) && q.2.category == 2)) = lv') (k : jJ Γ G Rf pc' lv' rest M Q) : jJ Γ G Rf pc lv (.ref x :: rest) M Q := by
  subst hp
  obtain ⟨p, l, e, R, s, m, args, below, meth, c, nL, D, cy, ad, st, A, kc, ks⟩ := Γ
  obtain ⟨hx, hb, hml, hown, hts, hR, hlk, hrt, hK, hZ, hN, hA, hnl, hkc, hks⟩ := hC
  intro H locs ls hl hP hD hS
  exact lv_astore_n hx hb hd rfl hl (by rw [hnl]; exact hn) hlv (fun ls hl => k H locs ls hl hP hD hS)

theorem j_iinc {Γ : jG} {G : List (Nat × Nat)} {Rf : Nat → Nat → Option Nat} {cc : ByteArray} {nl : Nat} {own : String} {ret : Option FieldType} {rm : Room} {pc pc' : Nat} {lv : List (Nat × Value)} {rest : List Value} {M : jM} {Q : State → Prop} {i : Nat} (q : Nat) {n : Int} {x v : Int32} {lv' : List (Nat × Value)} (hC : jOK Γ cc nl own ret rm) (hd : decode cc pc = .ok (.iinc i n, 3)) (hp : pc + 3 = pc') (hq : lv[q]? = some (i, .int x)) (hv : x + Int32.ofInt n = v) (hn : i < nl) (hlv : (i, Value.int v) :: lv.filter (fun q => !(q.1 == i) && !(q.1 + 1 == i && q.2.category == 2)) = lv') (k : jJ Γ G Rf pc' lv' rest M Q) : jJ Γ G Rf pc lv rest M Q := by
  subst hp
  obtain ⟨p, l, e, R, s, m, args, below, meth, c, nL, D, cy, ad, st, A, kc, ks⟩ := Γ
  obtain ⟨hx, hb, hml, hown, hts, hR, hlk, hrt, hK, hZ, hN, hA, hnl, hkc, hks⟩ := hC
  intro H locs ls hl hP hD hS
  exact lv_iinc hx hb hd hl hq hv (by rw [hnl]; exact hn) hlv (fun ls hl => k H locs ls hl hP hD hS)

theorem j_iadd {Γ : jG} {G : List (Nat × Nat)} {Rf : Nat → Nat → Option Nat} {cc : ByteArray} {nl : Nat} {own : String} {ret : Option FieldType} {rm : Room} {pc pc' : Nat} {lv : List (Nat × Value)} {rest : List Value} {M : jM} {Q : State → Prop} {x y : Int32} (hC : jOK Γ cc nl own ret rm) (hd : decode cc pc = .ok (.iadd, 1)) (hp : pc + 1 = pc')  (k : jJ Γ G Rf pc' lv (.int (x + y) :: rest) M Q) : jJ Γ G Rf pc lv (.int y :: .int x :: rest) M Q := by
  subst hp
  obtain ⟨p, l, e, R, s, m, args, below, meth, c, nL, D, cy, ad, st, A, kc, ks⟩ := Γ
  obtain ⟨hx, hb, hml, hown, hts, hR, hlk, hrt, hK, hZ, hN, hA, hnl, hkc, hks⟩ := hC
  intro H locs ls hl hP hD hS
  exact lv_iadd hx hb hd (k H locs ls hl hP hD hS)

theorem j_isub {Γ : jG} {G : List (Nat × Nat)} {Rf : Nat → Nat → Option Nat} {cc : ByteArray} {nl : Nat} {own : String} {ret : Option FieldType} {rm : Room} {pc pc' : Nat} {lv : List (Nat × Value)} {rest : List Value} {M : jM} {Q : State → Prop} {x y : Int32} (hC : jOK Γ cc nl own ret rm) (hd : decode cc pc = .ok (.isub, 1)) (hp : pc + 1 = pc')  (k : jJ Γ G Rf pc' lv (.int (x - y) :: rest) M Q) : jJ Γ G Rf pc lv (.int y :: .int x :: rest) M Q := by
  subst hp
  obtain ⟨p, l, e, R, s, m, args, below, meth, c, nL, D, cy, ad, st, A, kc, ks⟩ := Γ
  obtain ⟨hx, hb, hml, hown, hts, hR, hlk, hrt, hK, hZ, hN, hA, hnl, hkc, hks⟩ := hC
  intro H locs ls hl hP hD hS
  exact lv_isub hx hb hd (k H locs ls hl hP hD hS)

theorem j_imul {Γ : jG} {G : List (Nat × Nat)} {Rf : Nat → Nat → Option Nat} {cc : ByteArray} {nl : Nat} {own : String} {ret : Option FieldType} {rm : Room} {pc pc' : Nat} {lv : List (Nat × Value)} {rest : List Value} {M : jM} {Q : State → Prop} {x y : Int32} (hC : jOK Γ cc nl own ret rm) (hd : decode cc pc = .ok (.imul, 1)) (hp : pc + 1 = pc')  (k : jJ Γ G Rf pc' lv (.int (x * y) :: rest) M Q) : jJ Γ G Rf pc lv (.int y :: .int x :: rest) M Q := by
  subst hp
  obtain ⟨p, l, e, R, s, m, args, below, meth, c, nL, D, cy, ad, st, A, kc, ks⟩ := Γ
  obtain ⟨hx, hb, hml, hown, hts, hR, hlk, hrt, hK, hZ, hN, hA, hnl, hkc, hks⟩ := hC
  intro H locs ls hl hP hD hS
  exact lv_imul hx hb hd (k H locs ls hl hP hD hS)

theorem j_iand {Γ : jG} {G : List (Nat × Nat)} {Rf : Nat → Nat → Option Nat} {cc : ByteArray} {nl : Nat} {own : String} {ret : Option FieldType} {rm : Room} {pc pc' : Nat} {lv : List (Nat × Value)} {rest : List Value} {M : jM} {Q : State → Prop} {x y : Int32} (hC : jOK Γ cc nl own ret rm) (hd : decode cc pc = .ok (.iand, 1)) (hp : pc + 1 = pc')  (k : jJ Γ G Rf pc' lv (.int (x &&& y) :: rest) M Q) : jJ Γ G Rf pc lv (.int y :: .int x :: rest) M Q := by
  subst hp
  obtain ⟨p, l, e, R, s, m, args, below, meth, c, nL, D, cy, ad, st, A, kc, ks⟩ := Γ
  obtain ⟨hx, hb, hml, hown, hts, hR, hlk, hrt, hK, hZ, hN, hA, hnl, hkc, hks⟩ := hC
  intro H locs ls hl hP hD hS
  exact lv_iand hx hb hd (k H locs ls hl hP hD hS)

theorem j_ior {Γ : jG} {G : List (Nat × Nat)} {Rf : Nat → Nat → Option Nat} {cc : ByteArray} {nl : Nat} {own : String} {ret : Option FieldType} {rm : Room} {pc pc' : Nat} {lv : List (Nat × Value)} {rest : List Value} {M : jM} {Q : State → Prop} {x y : Int32} (hC : jOK Γ cc nl own ret rm) (hd : decode cc pc = .ok (.ior, 1)) (hp : pc + 1 = pc')  (k : jJ Γ G Rf pc' lv (.int (x ||| y) :: rest) M Q) : jJ Γ G Rf pc lv (.int y :: .int x :: rest) M Q := by
  subst hp
  obtain ⟨p, l, e, R, s, m, args, below, meth, c, nL, D, cy, ad, st, A, kc, ks⟩ := Γ
  obtain ⟨hx, hb, hml, hown, hts, hR, hlk, hrt, hK, hZ, hN, hA, hnl, hkc, hks⟩ := hC
  intro H locs ls hl hP hD hS
  exact lv_ior hx hb hd (k H locs ls hl hP hD hS)

theorem j_ixor {Γ : jG} {G : List (Nat × Nat)} {Rf : Nat → Nat → Option Nat} {cc : ByteArray} {nl : Nat} {own : String} {ret : Option FieldType} {rm : Room} {pc pc' : Nat} {lv : List (Nat × Value)} {rest : List Value} {M : jM} {Q : State → Prop} {x y : Int32} (hC : jOK Γ cc nl own ret rm) (hd : decode cc pc = .ok (.ixor, 1)) (hp : pc + 1 = pc')  (k : jJ Γ G Rf pc' lv (.int (x ^^^ y) :: rest) M Q) : jJ Γ G Rf pc lv (.int y :: .int x :: rest) M Q := by
  subst hp
  obtain ⟨p, l, e, R, s, m, args, below, meth, c, nL, D, cy, ad, st, A, kc, ks⟩ := Γ
  obtain ⟨hx, hb, hml, hown, hts, hR, hlk, hrt, hK, hZ, hN, hA, hnl, hkc, hks⟩ := hC
  intro H locs ls hl hP hD hS
  exact lv_ixor hx hb hd (k H locs ls hl hP hD hS)

theorem j_ishl {Γ : jG} {G : List (Nat × Nat)} {Rf : Nat → Nat → Option Nat} {cc : ByteArray} {nl : Nat} {own : String} {ret : Option FieldType} {rm : Room} {pc pc' : Nat} {lv : List (Nat × Value)} {rest : List Value} {M : jM} {Q : State → Prop} {x y : Int32} (hC : jOK Γ cc nl own ret rm) (hd : decode cc pc = .ok (.ishl, 1)) (hp : pc + 1 = pc')  (k : jJ Γ G Rf pc' lv (.int (x <<< (y &&& 31)) :: rest) M Q) : jJ Γ G Rf pc lv (.int y :: .int x :: rest) M Q := by
  subst hp
  obtain ⟨p, l, e, R, s, m, args, below, meth, c, nL, D, cy, ad, st, A, kc, ks⟩ := Γ
  obtain ⟨hx, hb, hml, hown, hts, hR, hlk, hrt, hK, hZ, hN, hA, hnl, hkc, hks⟩ := hC
  intro H locs ls hl hP hD hS
  exact lv_ishl hx hb hd (k H locs ls hl hP hD hS)

theorem j_ishr {Γ : jG} {G : List (Nat × Nat)} {Rf : Nat → Nat → Option Nat} {cc : ByteArray} {nl : Nat} {own : String} {ret : Option FieldType} {rm : Room} {pc pc' : Nat} {lv : List (Nat × Value)} {rest : List Value} {M : jM} {Q : State → Prop} {x y : Int32} (hC : jOK Γ cc nl own ret rm) (hd : decode cc pc = .ok (.ishr, 1)) (hp : pc + 1 = pc')  (k : jJ Γ G Rf pc' lv (.int (x >>> (y &&& 31)) :: rest) M Q) : jJ Γ G Rf pc lv (.int y :: .int x :: rest) M Q := by
  subst hp
  obtain ⟨p, l, e, R, s, m, args, below, meth, c, nL, D, cy, ad, st, A, kc, ks⟩ := Γ
  obtain ⟨hx, hb, hml, hown, hts, hR, hlk, hrt, hK, hZ, hN, hA, hnl, hkc, hks⟩ := hC
  intro H locs ls hl hP hD hS
  exact lv_ishr hx hb hd (k H locs ls hl hP hD hS)

theorem j_iushr {Γ : jG} {G : List (Nat × Nat)} {Rf : Nat → Nat → Option Nat} {cc : ByteArray} {nl : Nat} {own : String} {ret : Option FieldType} {rm : Room} {pc pc' : Nat} {lv : List (Nat × Value)} {rest : List Value} {M : jM} {Q : State → Prop} {x y : Int32} (hC : jOK Γ cc nl own ret rm) (hd : decode cc pc = .ok (.iushr, 1)) (hp : pc + 1 = pc')  (k : jJ Γ G Rf pc' lv (.int (x.toUInt32 >>> (y.toUInt32 &&& Int32.toUInt32 31)).toInt32 :: rest) M Q) : jJ Γ G Rf pc lv (.int y :: .int x :: rest) M Q := by
  subst hp
  obtain ⟨p, l, e, R, s, m, args, below, meth, c, nL, D, cy, ad, st, A, kc, ks⟩ := Γ
  obtain ⟨hx, hb, hml, hown, hts, hR, hlk, hrt, hK, hZ, hN, hA, hnl, hkc, hks⟩ := hC
  intro H locs ls hl hP hD hS
  exact lv_iushr hx hb hd rfl (k H locs ls hl hP hD hS)

theorem j_idiv {Γ : jG} {G : List (Nat × Nat)} {Rf : Nat → Nat → Option Nat} {cc : ByteArray} {nl : Nat} {own : String} {ret : Option FieldType} {rm : Room} {pc pc' : Nat} {lv : List (Nat × Value)} {rest : List Value} {M : jM} {Q : State → Prop} {x y : Int32} (hC : jOK Γ cc nl own ret rm) (hd : decode cc pc = .ok (.idiv, 1)) (hp : pc + 1 = pc') (hne : ¬ y = 0) (k : jJ Γ G Rf pc' lv (.int (x / y) :: rest) M Q) : jJ Γ G Rf pc lv (.int y :: .int x :: rest) M Q := by
  subst hp
  obtain ⟨p, l, e, R, s, m, args, below, meth, c, nL, D, cy, ad, st, A, kc, ks⟩ := Γ
  obtain ⟨hx, hb, hml, hown, hts, hR, hlk, hrt, hK, hZ, hN, hA, hnl, hkc, hks⟩ := hC
  intro H locs ls hl hP hD hS
  exact lv_idiv hx hb hd hne (k H locs ls hl hP hD hS)

theorem j_irem {Γ : jG} {G : List (Nat × Nat)} {Rf : Nat → Nat → Option Nat} {cc : ByteArray} {nl : Nat} {own : String} {ret : Option FieldType} {rm : Room} {pc pc' : Nat} {lv : List (Nat × Value)} {rest : List Value} {M : jM} {Q : State → Prop} {x y : Int32} (hC : jOK Γ cc nl own ret rm) (hd : decode cc pc = .ok (.irem, 1)) (hp : pc + 1 = pc') (hne : ¬ y = 0) (k : jJ Γ G Rf pc' lv (.int (x - x / y * y) :: rest) M Q) : jJ Γ G Rf pc lv (.int y :: .int x :: rest) M Q := by
  subst hp
  obtain ⟨p, l, e, R, s, m, args, below, meth, c, nL, D, cy, ad, st, A, kc, ks⟩ := Γ
  obtain ⟨hx, hb, hml, hown, hts, hR, hlk, hrt, hK, hZ, hN, hA, hnl, hkc, hks⟩ := hC
  intro H locs ls hl hP hD hS
  exact lv_irem hx hb hd hne (k H locs ls hl hP hD hS)

theorem j_ineg {Γ : jG} {G : List (Nat × Nat)} {Rf : Nat → Nat → Option Nat} {cc : ByteArray} {nl : Nat} {own : String} {ret : Option FieldType} {rm : Room} {pc pc' : Nat} {lv : List (Nat × Value)} {rest : List Value} {M : jM} {Q : State → Prop} {x : Int32} (hC : jOK Γ cc nl own ret rm) (hd : decode cc pc = .ok (.ineg, 1)) (hp : pc + 1 = pc')  (k : jJ Γ G Rf pc' lv (.int (-x) :: rest) M Q) : jJ Γ G Rf pc lv (.int x :: rest) M Q := by
  subst hp
  obtain ⟨p, l, e, R, s, m, args, below, meth, c, nL, D, cy, ad, st, A, kc, ks⟩ := Γ
  obtain ⟨hx, hb, hml, hown, hts, hR, hlk, hrt, hK, hZ, hN, hA, hnl, hkc, hks⟩ := hC
  intro H locs ls hl hP hD hS
  exact lv_ineg hx hb hd (k H locs ls hl hP hD hS)

theorem j_ladd {Γ : jG} {G : List (Nat × Nat)} {Rf : Nat → Nat → Option Nat} {cc : ByteArray} {nl : Nat} {own : String} {ret : Option FieldType} {rm : Room} {pc pc' : Nat} {lv : List (Nat × Value)} {rest : List Value} {M : jM} {Q : State → Prop} {x y : Int64} (hC : jOK Γ cc nl own ret rm) (hd : decode cc pc = .ok (.ladd, 1)) (hp : pc + 1 = pc')  (k : jJ Γ G Rf pc' lv (.long (x + y) :: rest) M Q) : jJ Γ G Rf pc lv (.long y :: .long x :: rest) M Q := by
  subst hp
  obtain ⟨p, l, e, R, s, m, args, below, meth, c, nL, D, cy, ad, st, A, kc, ks⟩ := Γ
  obtain ⟨hx, hb, hml, hown, hts, hR, hlk, hrt, hK, hZ, hN, hA, hnl, hkc, hks⟩ := hC
  intro H locs ls hl hP hD hS
  exact lv_ladd hx hb hd (k H locs ls hl hP hD hS)

theorem j_lsub {Γ : jG} {G : List (Nat × Nat)} {Rf : Nat → Nat → Option Nat} {cc : ByteArray} {nl : Nat} {own : String} {ret : Option FieldType} {rm : Room} {pc pc' : Nat} {lv : List (Nat × Value)} {rest : List Value} {M : jM} {Q : State → Prop} {x y : Int64} (hC : jOK Γ cc nl own ret rm) (hd : decode cc pc = .ok (.lsub, 1)) (hp : pc + 1 = pc')  (k : jJ Γ G Rf pc' lv (.long (x - y) :: rest) M Q) : jJ Γ G Rf pc lv (.long y :: .long x :: rest) M Q := by
  subst hp
  obtain ⟨p, l, e, R, s, m, args, below, meth, c, nL, D, cy, ad, st, A, kc, ks⟩ := Γ
  obtain ⟨hx, hb, hml, hown, hts, hR, hlk, hrt, hK, hZ, hN, hA, hnl, hkc, hks⟩ := hC
  intro H locs ls hl hP hD hS
  exact lv_lsub hx hb hd (k H locs ls hl hP hD hS)

theorem j_lmul {Γ : jG} {G : List (Nat × Nat)} {Rf : Nat → Nat → Option Nat} {cc : ByteArray} {nl : Nat} {own : String} {ret : Option FieldType} {rm : Room} {pc pc' : Nat} {lv : List (Nat × Value)} {rest : List Value} {M : jM} {Q : State → Prop} {x y : Int64} (hC : jOK Γ cc nl own ret rm) (hd : decode cc pc = .ok (.lmul, 1)) (hp : pc + 1 = pc')  (k : jJ Γ G Rf pc' lv (.long (x * y) :: rest) M Q) : jJ Γ G Rf pc lv (.long y :: .long x :: rest) M Q := by
  subst hp
  obtain ⟨p, l, e, R, s, m, args, below, meth, c, nL, D, cy, ad, st, A, kc, ks⟩ := Γ
  obtain ⟨hx, hb, hml, hown, hts, hR, hlk, hrt, hK, hZ, hN, hA, hnl, hkc, hks⟩ := hC
  intro H locs ls hl hP hD hS
  exact lv_lmul hx hb hd (k H locs ls hl hP hD hS)

theorem j_land {Γ : jG} {G : List (Nat × Nat)} {Rf : Nat → Nat → Option Nat} {cc : ByteArray} {nl : Nat} {own : String} {ret : Option FieldType} {rm : Room} {pc pc' : Nat} {lv : List (Nat × Value)} {rest : List Value} {M : jM} {Q : State → Prop} {x y : Int64} (hC : jOK Γ cc nl own ret rm) (hd : decode cc pc = .ok (.land, 1)) (hp : pc + 1 = pc')  (k : jJ Γ G Rf pc' lv (.long (x &&& y) :: rest) M Q) : jJ Γ G Rf pc lv (.long y :: .long x :: rest) M Q := by
  subst hp
  obtain ⟨p, l, e, R, s, m, args, below, meth, c, nL, D, cy, ad, st, A, kc, ks⟩ := Γ
  obtain ⟨hx, hb, hml, hown, hts, hR, hlk, hrt, hK, hZ, hN, hA, hnl, hkc, hks⟩ := hC
  intro H locs ls hl hP hD hS
  exact lv_land hx hb hd (k H locs ls hl hP hD hS)

theorem j_lor {Γ : jG} {G : List (Nat × Nat)} {Rf : Nat → Nat → Option Nat} {cc : ByteArray} {nl : Nat} {own : String} {ret : Option FieldType} {rm : Room} {pc pc' : Nat} {lv : List (Nat × Value)} {rest : List Value} {M : jM} {Q : State → Prop} {x y : Int64} (hC : jOK Γ cc nl own ret rm) (hd : decode cc pc = .ok (.lor, 1)) (hp : pc + 1 = pc')  (k : jJ Γ G Rf pc' lv (.long (x ||| y) :: rest) M Q) : jJ Γ G Rf pc lv (.long y :: .long x :: rest) M Q := by
  subst hp
  obtain ⟨p, l, e, R, s, m, args, below, meth, c, nL, D, cy, ad, st, A, kc, ks⟩ := Γ
  obtain ⟨hx, hb, hml, hown, hts, hR, hlk, hrt, hK, hZ, hN, hA, hnl, hkc, hks⟩ := hC
  intro H locs ls hl hP hD hS
  exact lv_lor hx hb hd (k H locs ls hl hP hD hS)

theorem j_ldiv {Γ : jG} {G : List (Nat × Nat)} {Rf : Nat → Nat → Option Nat} {cc : ByteArray} {nl : Nat} {own : String} {ret : Option FieldType} {rm : Room} {pc pc' : Nat} {lv : List (Nat × Value)} {rest : List Value} {M : jM} {Q : State → Prop} {x y : Int64} (hC : jOK Γ cc nl own ret rm) (hd : decode cc pc = .ok (.ldiv, 1)) (hp : pc + 1 = pc') (hne : ¬ y = 0) (k : jJ Γ G Rf pc' lv (.long (x / y) :: rest) M Q) : jJ Γ G Rf pc lv (.long y :: .long x :: rest) M Q := by
  subst hp
  obtain ⟨p, l, e, R, s, m, args, below, meth, c, nL, D, cy, ad, st, A, kc, ks⟩ := Γ
  obtain ⟨hx, hb, hml, hown, hts, hR, hlk, hrt, hK, hZ, hN, hA, hnl, hkc, hks⟩ := hC
  intro H locs ls hl hP hD hS
  exact lv_ldiv hx hb hd hne (k H locs ls hl hP hD hS)

theorem j_lrem {Γ : jG} {G : List (Nat × Nat)} {Rf : Nat → Nat → Option Nat} {cc : ByteArray} {nl : Nat} {own : String} {ret : Option FieldType} {rm : Room} {pc pc' : Nat} {lv : List (Nat × Value)} {rest : List Value} {M : jM} {Q : State → Prop} {x y : Int64} (hC : jOK Γ cc nl own ret rm) (hd : decode cc pc = .ok (.lrem, 1)) (hp : pc + 1 = pc') (hne : ¬ y = 0) (k : jJ Γ G Rf pc' lv (.long (x - x / y * y) :: rest) M Q) : jJ Γ G Rf pc lv (.long y :: .long x :: rest) M Q := by
  subst hp
  obtain ⟨p, l, e, R, s, m, args, below, meth, c, nL, D, cy, ad, st, A, kc, ks⟩ := Γ
  obtain ⟨hx, hb, hml, hown, hts, hR, hlk, hrt, hK, hZ, hN, hA, hnl, hkc, hks⟩ := hC
  intro H locs ls hl hP hD hS
  exact lv_lrem hx hb hd hne (k H locs ls hl hP hD hS)

theorem j_lshl {Γ : jG} {G : List (Nat × Nat)} {Rf : Nat → Nat → Option Nat} {cc : ByteArray} {nl : Nat} {own : String} {ret : Option FieldType} {rm : Room} {pc pc' : Nat} {lv : List (Nat × Value)} {rest : List Value} {M : jM} {Q : State → Prop} {x : Int64} {y : Int32} (hC : jOK Γ cc nl own ret rm) (hd : decode cc pc = .ok (.lshl, 1)) (hp : pc + 1 = pc')  (k : jJ Γ G Rf pc' lv (.long (x <<< (y.toInt64 &&& 63)) :: rest) M Q) : jJ Γ G Rf pc lv (.int y :: .long x :: rest) M Q := by
  subst hp
  obtain ⟨p, l, e, R, s, m, args, below, meth, c, nL, D, cy, ad, st, A, kc, ks⟩ := Γ
  obtain ⟨hx, hb, hml, hown, hts, hR, hlk, hrt, hK, hZ, hN, hA, hnl, hkc, hks⟩ := hC
  intro H locs ls hl hP hD hS
  exact lv_lshl hx hb hd rfl (k H locs ls hl hP hD hS)

theorem j_lushr {Γ : jG} {G : List (Nat × Nat)} {Rf : Nat → Nat → Option Nat} {cc : ByteArray} {nl : Nat} {own : String} {ret : Option FieldType} {rm : Room} {pc pc' : Nat} {lv : List (Nat × Value)} {rest : List Value} {M : jM} {Q : State → Prop} {x : Int64} {y : Int32} (hC : jOK Γ cc nl own ret rm) (hd : decode cc pc = .ok (.lushr, 1)) (hp : pc + 1 = pc')  (k : jJ Γ G Rf pc' lv (.long (x.toUInt64 >>> (y.toInt64.toUInt64 &&& Int64.toUInt64 63)).toInt64 :: rest) M Q) : jJ Γ G Rf pc lv (.int y :: .long x :: rest) M Q := by
  subst hp
  obtain ⟨p, l, e, R, s, m, args, below, meth, c, nL, D, cy, ad, st, A, kc, ks⟩ := Γ
  obtain ⟨hx, hb, hml, hown, hts, hR, hlk, hrt, hK, hZ, hN, hA, hnl, hkc, hks⟩ := hC
  intro H locs ls hl hP hD hS
  exact lv_lushr hx hb hd rfl (k H locs ls hl hP hD hS)

theorem j_i2l {Γ : jG} {G : List (Nat × Nat)} {Rf : Nat → Nat → Option Nat} {cc : ByteArray} {nl : Nat} {own : String} {ret : Option FieldType} {rm : Room} {pc pc' : Nat} {lv : List (Nat × Value)} {rest : List Value} {M : jM} {Q : State → Prop} {x : Int32} (hC : jOK Γ cc nl own ret rm) (hd : decode cc pc = .ok (.i2l, 1)) (hp : pc + 1 = pc')  (k : jJ Γ G Rf pc' lv (.long x.toInt64 :: rest) M Q) : jJ Γ G Rf pc lv (.int x :: rest) M Q := by
  subst hp
  obtain ⟨p, l, e, R, s, m, args, below, meth, c, nL, D, cy, ad, st, A, kc, ks⟩ := Γ
  obtain ⟨hx, hb, hml, hown, hts, hR, hlk, hrt, hK, hZ, hN, hA, hnl, hkc, hks⟩ := hC
  intro H locs ls hl hP hD hS
  exact lv_i2l hx hb hd rfl (k H locs ls hl hP hD hS)

theorem j_l2i {Γ : jG} {G : List (Nat × Nat)} {Rf : Nat → Nat → Option Nat} {cc : ByteArray} {nl : Nat} {own : String} {ret : Option FieldType} {rm : Room} {pc pc' : Nat} {lv : List (Nat × Value)} {rest : List Value} {M : jM} {Q : State → Prop} {x : Int64} (hC : jOK Γ cc nl own ret rm) (hd : decode cc pc = .ok (.l2i, 1)) (hp : pc + 1 = pc')  (k : jJ Γ G Rf pc' lv (.int x.toInt32 :: rest) M Q) : jJ Γ G Rf pc lv (.long x :: rest) M Q := by
  subst hp
  obtain ⟨p, l, e, R, s, m, args, below, meth, c, nL, D, cy, ad, st, A, kc, ks⟩ := Γ
  obtain ⟨hx, hb, hml, hown, hts, hR, hlk, hrt, hK, hZ, hN, hA, hnl, hkc, hks⟩ := hC
  intro H locs ls hl hP hD hS
  exact lv_l2i hx hb hd rfl (k H locs ls hl hP hD hS)

theorem j_i2b {Γ : jG} {G : List (Nat × Nat)} {Rf : Nat → Nat → Option Nat} {cc : ByteArray} {nl : Nat} {own : String} {ret : Option FieldType} {rm : Room} {pc pc' : Nat} {lv : List (Nat × Value)} {rest : List Value} {M : jM} {Q : State → Prop} {x : Int32} (hC : jOK Γ cc nl own ret rm) (hd : decode cc pc = .ok (.i2b, 1)) (hp : pc + 1 = pc')  (k : jJ Γ G Rf pc' lv (.int x.toInt8.toInt32 :: rest) M Q) : jJ Γ G Rf pc lv (.int x :: rest) M Q := by
  subst hp
  obtain ⟨p, l, e, R, s, m, args, below, meth, c, nL, D, cy, ad, st, A, kc, ks⟩ := Γ
  obtain ⟨hx, hb, hml, hown, hts, hR, hlk, hrt, hK, hZ, hN, hA, hnl, hkc, hks⟩ := hC
  intro H locs ls hl hP hD hS
  exact lv_i2b hx hb hd rfl (k H locs ls hl hP hD hS)

theorem j_lcmp {Γ : jG} {G : List (Nat × Nat)} {Rf : Nat → Nat → Option Nat} {cc : ByteArray} {nl : Nat} {own : String} {ret : Option FieldType} {rm : Room} {pc pc' : Nat} {lv : List (Nat × Value)} {rest : List Value} {M : jM} {Q : State → Prop} {x y : Int64} (hC : jOK Γ cc nl own ret rm) (hd : decode cc pc = .ok (.lcmp, 1)) (hp : pc + 1 = pc')  (k : jJ Γ G Rf pc' lv (.int (lg_cmp x y) :: rest) M Q) : jJ Γ G Rf pc lv (.long y :: .long x :: rest) M Q := by
  subst hp
  obtain ⟨p, l, e, R, s, m, args, below, meth, c, nL, D, cy, ad, st, A, kc, ks⟩ := Γ
  obtain ⟨hx, hb, hml, hown, hts, hR, hlk, hrt, hK, hZ, hN, hA, hnl, hkc, hks⟩ := hC
  intro H locs ls hl hP hD hS
  exact W.lcmp hx hb hd (k H locs ls hl hP hD hS)

theorem j_dup {Γ : jG} {G : List (Nat × Nat)} {Rf : Nat → Nat → Option Nat} {cc : ByteArray} {nl : Nat} {own : String} {ret : Option FieldType} {rm : Room} {pc pc' : Nat} {lv : List (Nat × Value)} {rest : List Value} {M : jM} {Q : State → Prop} {v : Value} (hC : jOK Γ cc nl own ret rm) (hd : decode cc pc = .ok (.dup, 1)) (hp : pc + 1 = pc') (hv : v.category = 1) (k : jJ Γ G Rf pc' lv (v :: v :: rest) M Q) : jJ Γ G Rf pc lv (v :: rest) M Q := by
  subst hp
  obtain ⟨p, l, e, R, s, m, args, below, meth, c, nL, D, cy, ad, st, A, kc, ks⟩ := Γ
  obtain ⟨hx, hb, hml, hown, hts, hR, hlk, hrt, hK, hZ, hN, hA, hnl, hkc, hks⟩ := hC
  intro H locs ls hl hP hD hS
  exact lv_dup hx hb hd hv (k H locs ls hl hP hD hS)

theorem j_pop {Γ : jG} {G : List (Nat × Nat)} {Rf : Nat → Nat → Option Nat} {cc : ByteArray} {nl : Nat} {own : String} {ret : Option FieldType} {rm : Room} {pc pc' : Nat} {lv : List (Nat × Value)} {rest : List Value} {M : jM} {Q : State → Prop} {v : Value} (hC : jOK Γ cc nl own ret rm) (hd : decode cc pc = .ok (.pop, 1)) (hp : pc + 1 = pc') (hv : v.category = 1) (k : jJ Γ G Rf pc' lv (rest) M Q) : jJ Γ G Rf pc lv (v :: rest) M Q := by
  subst hp
  obtain ⟨p, l, e, R, s, m, args, below, meth, c, nL, D, cy, ad, st, A, kc, ks⟩ := Γ
  obtain ⟨hx, hb, hml, hown, hts, hR, hlk, hrt, hK, hZ, hN, hA, hnl, hkc, hks⟩ := hC
  intro H locs ls hl hP hD hS
  exact lv_pop hx hb hd hv (k H locs ls hl hP hD hS)

theorem j_dup2 {Γ : jG} {G : List (Nat × Nat)} {Rf : Nat → Nat → Option Nat} {cc : ByteArray} {nl : Nat} {own : String} {ret : Option FieldType} {rm : Room} {pc pc' : Nat} {lv : List (Nat × Value)} {rest : List Value} {M : jM} {Q : State → Prop} {v w : Value} (hC : jOK Γ cc nl own ret rm) (hd : decode cc pc = .ok (.dup2, 1)) (hp : pc + 1 = pc') (hv : v.category = 1) (hw : w.category = 1) (k : jJ Γ G Rf pc' lv (v :: w :: v :: w :: rest) M Q) : jJ Γ G Rf pc lv (v :: w :: rest) M Q := by
  subst hp
  obtain ⟨p, l, e, R, s, m, args, below, meth, c, nL, D, cy, ad, st, A, kc, ks⟩ := Γ
  obtain ⟨hx, hb, hml, hown, hts, hR, hlk, hrt, hK, hZ, hN, hA, hnl, hkc, hks⟩ := hC
  intro H locs ls hl hP hD hS
  exact lv_dup2_11 hx hb hd hv hw (k H locs ls hl hP hD hS)

theorem j_dup_x1 {Γ : jG} {G : List (Nat × Nat)} {Rf : Nat → Nat → Option Nat} {cc : ByteArray} {nl : Nat} {own : String} {ret : Option FieldType} {rm : Room} {pc pc' : Nat} {lv : List (Nat × Value)} {rest : List Value} {M : jM} {Q : State → Prop} {v w : Value} (hC : jOK Γ cc nl own ret rm) (hd : decode cc pc = .ok (.dup_x1, 1)) (hp : pc + 1 = pc') (hv : v.category = 1) (hw : w.category = 1) (k : jJ Γ G Rf pc' lv (v :: w :: v :: rest) M Q) : jJ Γ G Rf pc lv (v :: w :: rest) M Q := by
  subst hp
  obtain ⟨p, l, e, R, s, m, args, below, meth, c, nL, D, cy, ad, st, A, kc, ks⟩ := Γ
  obtain ⟨hx, hb, hml, hown, hts, hR, hlk, hrt, hK, hZ, hN, hA, hnl, hkc, hks⟩ := hC
  intro H locs ls hl hP hD hS
  exact lv_dup_x1 hx hb hd hv hw (k H locs ls hl hP hD hS)

theorem j_if_eq {Γ : jG} {G : List (Nat × Nat)} {Rf : Nat → Nat → Option Nat} {cc : ByteArray} {nl : Nat} {own : String} {ret : Option FieldType} {rm : Room} {pc pc' : Nat} {lv : List (Nat × Value)} {rest : List Value} {M : jM} {Q : State → Prop} {x : Int32} {off : Int} {tgt : Nat} (hC : jOK Γ cc nl own ret rm) (hd : decode cc pc = .ok (.ifCond .eq off, 3)) (ht : (pc : Int) + off = (tgt : Int)) (hp : pc + 3 = pc') (kt : x = 0 → jJ Γ G Rf tgt lv rest M Q) (kf : ¬ x = 0 → jJ Γ G Rf pc' lv rest M Q) : jJ Γ G Rf pc lv (.int x :: rest) M Q := by
  subst hp
  obtain ⟨p, l, e, R, s, m, args, below, meth, c, nL, D, cy, ad, st, A, kc, ks⟩ := Γ
  obtain ⟨hx, hb, hml, hown, hts, hR, hlk, hrt, hK, hZ, hN, hA, hnl, hkc, hks⟩ := hC
  intro H locs ls hl hP hD hS
  exact lv_if_eq hx hb hd ht (fun h => kt h H locs ls hl hP hD hS) (fun h => kf h H locs ls hl hP hD hS)

theorem j_if_ne {Γ : jG} {G : List (Nat × Nat)} {Rf : Nat → Nat → Option Nat} {cc : ByteArray} {nl : Nat} {own : String} {ret : Option FieldType} {rm : Room} {pc pc' : Nat} {lv : List (Nat × Value)} {rest : List Value} {M : jM} {Q : State → Prop} {x : Int32} {off : Int} {tgt : Nat} (hC : jOK Γ cc nl own ret rm) (hd : decode cc pc = .ok (.ifCond .ne off, 3)) (ht : (pc : Int) + off = (tgt : Int)) (hp : pc + 3 = pc') (kt : ¬ x = 0 → jJ Γ G Rf tgt lv rest M Q) (kf : x = 0 → jJ Γ G Rf pc' lv rest M Q) : jJ Γ G Rf pc lv (.int x :: rest) M Q := by
  subst hp
  obtain ⟨p, l, e, R, s, m, args, below, meth, c, nL, D, cy, ad, st, A, kc, ks⟩ := Γ
  obtain ⟨hx, hb, hml, hown, hts, hR, hlk, hrt, hK, hZ, hN, hA, hnl, hkc, hks⟩ := hC
  intro H locs ls hl hP hD hS
  exact lv_if_ne hx hb hd ht (fun h => kt h H locs ls hl hP hD hS) (fun h => kf h H locs ls hl hP hD hS)

theorem j_if_lt {Γ : jG} {G : List (Nat × Nat)} {Rf : Nat → Nat → Option Nat} {cc : ByteArray} {nl : Nat} {own : String} {ret : Option FieldType} {rm : Room} {pc pc' : Nat} {lv : List (Nat × Value)} {rest : List Value} {M : jM} {Q : State → Prop} {x : Int32} {off : Int} {tgt : Nat} (hC : jOK Γ cc nl own ret rm) (hd : decode cc pc = .ok (.ifCond .lt off, 3)) (ht : (pc : Int) + off = (tgt : Int)) (hp : pc + 3 = pc') (kt : x < 0 → jJ Γ G Rf tgt lv rest M Q) (kf : ¬ x < 0 → jJ Γ G Rf pc' lv rest M Q) : jJ Γ G Rf pc lv (.int x :: rest) M Q := by
  subst hp
  obtain ⟨p, l, e, R, s, m, args, below, meth, c, nL, D, cy, ad, st, A, kc, ks⟩ := Γ
  obtain ⟨hx, hb, hml, hown, hts, hR, hlk, hrt, hK, hZ, hN, hA, hnl, hkc, hks⟩ := hC
  intro H locs ls hl hP hD hS
  exact lv_if_lt hx hb hd ht (fun h => kt h H locs ls hl hP hD hS) (fun h => kf h H locs ls hl hP hD hS)

theorem j_if_ge {Γ : jG} {G : List (Nat × Nat)} {Rf : Nat → Nat → Option Nat} {cc : ByteArray} {nl : Nat} {own : String} {ret : Option FieldType} {rm : Room} {pc pc' : Nat} {lv : List (Nat × Value)} {rest : List Value} {M : jM} {Q : State → Prop} {x : Int32} {off : Int} {tgt : Nat} (hC : jOK Γ cc nl own ret rm) (hd : decode cc pc = .ok (.ifCond .ge off, 3)) (ht : (pc : Int) + off = (tgt : Int)) (hp : pc + 3 = pc') (kt : 0 ≤ x → jJ Γ G Rf tgt lv rest M Q) (kf : ¬ 0 ≤ x → jJ Γ G Rf pc' lv rest M Q) : jJ Γ G Rf pc lv (.int x :: rest) M Q := by
  subst hp
  obtain ⟨p, l, e, R, s, m, args, below, meth, c, nL, D, cy, ad, st, A, kc, ks⟩ := Γ
  obtain ⟨hx, hb, hml, hown, hts, hR, hlk, hrt, hK, hZ, hN, hA, hnl, hkc, hks⟩ := hC
  intro H locs ls hl hP hD hS
  exact lv_if_ge hx hb hd ht (fun h => kt h H locs ls hl hP hD hS) (fun h => kf h H locs ls hl hP hD hS)

theorem j_if_gt {Γ : jG} {G : List (Nat × Nat)} {Rf : Nat → Nat → Option Nat} {cc : ByteArray} {nl : Nat} {own : String} {ret : Option FieldType} {rm : Room} {pc pc' : Nat} {lv : List (Nat × Value)} {rest : List Value} {M : jM} {Q : State → Prop} {x : Int32} {off : Int} {tgt : Nat} (hC : jOK Γ cc nl own ret rm) (hd : decode cc pc = .ok (.ifCond .gt off, 3)) (ht : (pc : Int) + off = (tgt : Int)) (hp : pc + 3 = pc') (kt : 0 < x → jJ Γ G Rf tgt lv rest M Q) (kf : ¬ 0 < x → jJ Γ G Rf pc' lv rest M Q) : jJ Γ G Rf pc lv (.int x :: rest) M Q := by
  subst hp
  obtain ⟨p, l, e, R, s, m, args, below, meth, c, nL, D, cy, ad, st, A, kc, ks⟩ := Γ
  obtain ⟨hx, hb, hml, hown, hts, hR, hlk, hrt, hK, hZ, hN, hA, hnl, hkc, hks⟩ := hC
  intro H locs ls hl hP hD hS
  exact lv_if_gt hx hb hd ht (fun h => kt h H locs ls hl hP hD hS) (fun h => kf h H locs ls hl hP hD hS)

theorem j_if_le {Γ : jG} {G : List (Nat × Nat)} {Rf : Nat → Nat → Option Nat} {cc : ByteArray} {nl : Nat} {own : String} {ret : Option FieldType} {rm : Room} {pc pc' : Nat} {lv : List (Nat × Value)} {rest : List Value} {M : jM} {Q : State → Prop} {x : Int32} {off : Int} {tgt : Nat} (hC : jOK Γ cc nl own ret rm) (hd : decode cc pc = .ok (.ifCond .le off, 3)) (ht : (pc : Int) + off = (tgt : Int)) (hp : pc + 3 = pc') (kt : x ≤ 0 → jJ Γ G Rf tgt lv rest M Q) (kf : ¬ x ≤ 0 → jJ Γ G Rf pc' lv rest M Q) : jJ Γ G Rf pc lv (.int x :: rest) M Q := by
  subst hp
  obtain ⟨p, l, e, R, s, m, args, below, meth, c, nL, D, cy, ad, st, A, kc, ks⟩ := Γ
  obtain ⟨hx, hb, hml, hown, hts, hR, hlk, hrt, hK, hZ, hN, hA, hnl, hkc, hks⟩ := hC
  intro H locs ls hl hP hD hS
  exact lv_if_le hx hb hd ht (fun h => kt h H locs ls hl hP hD hS) (fun h => kf h H locs ls hl hP hD hS)

theorem j_icmp_eq {Γ : jG} {G : List (Nat × Nat)} {Rf : Nat → Nat → Option Nat} {cc : ByteArray} {nl : Nat} {own : String} {ret : Option FieldType} {rm : Room} {pc pc' : Nat} {lv : List (Nat × Value)} {rest : List Value} {M : jM} {Q : State → Prop} {x y : Int32} {off : Int} {tgt : Nat} (hC : jOK Γ cc nl own ret rm) (hd : decode cc pc = .ok (.if_icmp .eq off, 3)) (ht : (pc : Int) + off = (tgt : Int)) (hp : pc + 3 = pc') (kt : x = y → jJ Γ G Rf tgt lv rest M Q) (kf : ¬ x = y → jJ Γ G Rf pc' lv rest M Q) : jJ Γ G Rf pc lv (.int y :: .int x :: rest) M Q := by
  subst hp
  obtain ⟨p, l, e, R, s, m, args, below, meth, c, nL, D, cy, ad, st, A, kc, ks⟩ := Γ
  obtain ⟨hx, hb, hml, hown, hts, hR, hlk, hrt, hK, hZ, hN, hA, hnl, hkc, hks⟩ := hC
  intro H locs ls hl hP hD hS
  exact lv_icmp_eq hx hb hd ht (fun h => kt h H locs ls hl hP hD hS) (fun h => kf h H locs ls hl hP hD hS)

theorem j_icmp_ne {Γ : jG} {G : List (Nat × Nat)} {Rf : Nat → Nat → Option Nat} {cc : ByteArray} {nl : Nat} {own : String} {ret : Option FieldType} {rm : Room} {pc pc' : Nat} {lv : List (Nat × Value)} {rest : List Value} {M : jM} {Q : State → Prop} {x y : Int32} {off : Int} {tgt : Nat} (hC : jOK Γ cc nl own ret rm) (hd : decode cc pc = .ok (.if_icmp .ne off, 3)) (ht : (pc : Int) + off = (tgt : Int)) (hp : pc + 3 = pc') (kt : ¬ x = y → jJ Γ G Rf tgt lv rest M Q) (kf : x = y → jJ Γ G Rf pc' lv rest M Q) : jJ Γ G Rf pc lv (.int y :: .int x :: rest) M Q := by
  subst hp
  obtain ⟨p, l, e, R, s, m, args, below, meth, c, nL, D, cy, ad, st, A, kc, ks⟩ := Γ
  obtain ⟨hx, hb, hml, hown, hts, hR, hlk, hrt, hK, hZ, hN, hA, hnl, hkc, hks⟩ := hC
  intro H locs ls hl hP hD hS
  exact lv_icmp_ne hx hb hd ht (fun h => kt h H locs ls hl hP hD hS) (fun h => kf h H locs ls hl hP hD hS)

theorem j_icmp_lt {Γ : jG} {G : List (Nat × Nat)} {Rf : Nat → Nat → Option Nat} {cc : ByteArray} {nl : Nat} {own : String} {ret : Option FieldType} {rm : Room} {pc pc' : Nat} {lv : List (Nat × Value)} {rest : List Value} {M : jM} {Q : State → Prop} {x y : Int32} {off : Int} {tgt : Nat} (hC : jOK Γ cc nl own ret rm) (hd : decode cc pc = .ok (.if_icmp .lt off, 3)) (ht : (pc : Int) + off = (tgt : Int)) (hp : pc + 3 = pc') (kt : x < y → jJ Γ G Rf tgt lv rest M Q) (kf : ¬ x < y → jJ Γ G Rf pc' lv rest M Q) : jJ Γ G Rf pc lv (.int y :: .int x :: rest) M Q := by
  subst hp
  obtain ⟨p, l, e, R, s, m, args, below, meth, c, nL, D, cy, ad, st, A, kc, ks⟩ := Γ
  obtain ⟨hx, hb, hml, hown, hts, hR, hlk, hrt, hK, hZ, hN, hA, hnl, hkc, hks⟩ := hC
  intro H locs ls hl hP hD hS
  exact lv_icmp_lt hx hb hd ht (fun h => kt h H locs ls hl hP hD hS) (fun h => kf h H locs ls hl hP hD hS)

theorem j_icmp_ge {Γ : jG} {G : List (Nat × Nat)} {Rf : Nat → Nat → Option Nat} {cc : ByteArray} {nl : Nat} {own : String} {ret : Option FieldType} {rm : Room} {pc pc' : Nat} {lv : List (Nat × Value)} {rest : List Value} {M : jM} {Q : State → Prop} {x y : Int32} {off : Int} {tgt : Nat} (hC : jOK Γ cc nl own ret rm) (hd : decode cc pc = .ok (.if_icmp .ge off, 3)) (ht : (pc : Int) + off = (tgt : Int)) (hp : pc + 3 = pc') (kt : y ≤ x → jJ Γ G Rf tgt lv rest M Q) (kf : ¬ y ≤ x → jJ Γ G Rf pc' lv rest M Q) : jJ Γ G Rf pc lv (.int y :: .int x :: rest) M Q := by
  subst hp
  obtain ⟨p, l, e, R, s, m, args, below, meth, c, nL, D, cy, ad, st, A, kc, ks⟩ := Γ
  obtain ⟨hx, hb, hml, hown, hts, hR, hlk, hrt, hK, hZ, hN, hA, hnl, hkc, hks⟩ := hC
  intro H locs ls hl hP hD hS
  exact lv_icmp_ge hx hb hd ht (fun h => kt h H locs ls hl hP hD hS) (fun h => kf h H locs ls hl hP hD hS)

theorem j_icmp_gt {Γ : jG} {G : List (Nat × Nat)} {Rf : Nat → Nat → Option Nat} {cc : ByteArray} {nl : Nat} {own : String} {ret : Option FieldType} {rm : Room} {pc pc' : Nat} {lv : List (Nat × Value)} {rest : List Value} {M : jM} {Q : State → Prop} {x y : Int32} {off : Int} {tgt : Nat} (hC : jOK Γ cc nl own ret rm) (hd : decode cc pc = .ok (.if_icmp .gt off, 3)) (ht : (pc : Int) + off = (tgt : Int)) (hp : pc + 3 = pc') (kt : y < x → jJ Γ G Rf tgt lv rest M Q) (kf : ¬ y < x → jJ Γ G Rf pc' lv rest M Q) : jJ Γ G Rf pc lv (.int y :: .int x :: rest) M Q := by
  subst hp
  obtain ⟨p, l, e, R, s, m, args, below, meth, c, nL, D, cy, ad, st, A, kc, ks⟩ := Γ
  obtain ⟨hx, hb, hml, hown, hts, hR, hlk, hrt, hK, hZ, hN, hA, hnl, hkc, hks⟩ := hC
  intro H locs ls hl hP hD hS
  exact lv_icmp_gt hx hb hd ht (fun h => kt h H locs ls hl hP hD hS) (fun h => kf h H locs ls hl hP hD hS)

theorem j_icmp_le {Γ : jG} {G : List (Nat × Nat)} {Rf : Nat → Nat → Option Nat} {cc : ByteArray} {nl : Nat} {own : String} {ret : Option FieldType} {rm : Room} {pc pc' : Nat} {lv : List (Nat × Value)} {rest : List Value} {M : jM} {Q : State → Prop} {x y : Int32} {off : Int} {tgt : Nat} (hC : jOK Γ cc nl own ret rm) (hd : decode cc pc = .ok (.if_icmp .le off, 3)) (ht : (pc : Int) + off = (tgt : Int)) (hp : pc + 3 = pc') (kt : x ≤ y → jJ Γ G Rf tgt lv rest M Q) (kf : ¬ x ≤ y → jJ Γ G Rf pc' lv rest M Q) : jJ Γ G Rf pc lv (.int y :: .int x :: rest) M Q := by
  subst hp
  obtain ⟨p, l, e, R, s, m, args, below, meth, c, nL, D, cy, ad, st, A, kc, ks⟩ := Γ
  obtain ⟨hx, hb, hml, hown, hts, hR, hlk, hrt, hK, hZ, hN, hA, hnl, hkc, hks⟩ := hC
  intro H locs ls hl hP hD hS
  exact lv_icmp_le hx hb hd ht (fun h => kt h H locs ls hl hP hD hS) (fun h => kf h H locs ls hl hP hD hS)

theorem j_goto {Γ : jG} {G : List (Nat × Nat)} {Rf : Nat → Nat → Option Nat} {cc : ByteArray} {nl : Nat} {own : String} {ret : Option FieldType} {rm : Room} {pc pc' : Nat} {lv : List (Nat × Value)} {rest : List Value} {M : jM} {Q : State → Prop} {off : Int} {tgt : Nat} (hC : jOK Γ cc nl own ret rm) (hd : decode cc pc = .ok (.goto off, 3)) (ht : (pc : Int) + off = (tgt : Int)) (k : jJ Γ G Rf tgt lv rest M Q) : jJ Γ G Rf pc lv rest M Q := by
  obtain ⟨p, l, e, R, s, m, args, below, meth, c, nL, D, cy, ad, st, A, kc, ks⟩ := Γ
  obtain ⟨hx, hb, hml, hown, hts, hR, hlk, hrt, hK, hZ, hN, hA, hnl, hkc, hks⟩ := hC
  intro H locs ls hl hP hD hS
  exact lv_goto hx hb hd ht (k H locs ls hl hP hD hS)

theorem j_tabOut {Γ : jG} {G : List (Nat × Nat)} {Rf : Nat → Nat → Option Nat} {cc : ByteArray} {nl : Nat} {own : String} {ret : Option FieldType} {rm : Room} {pc pc' : Nat} {lv : List (Nat × Value)} {rest : List Value} {M : jM} {Q : State → Prop} {dflt lo hi : Int} {offs : Array Int} {len : Nat} {x : Int32} {tgt : Nat} (hC : jOK Γ cc nl own ret rm) (hd : decode cc pc = .ok (.tableswitch dflt lo hi offs, len)) (h : x.toInt < lo ∨ hi < x.toInt) (ht : (pc : Int) + dflt = (tgt : Int)) (k : jJ Γ G Rf tgt lv rest M Q) : jJ Γ G Rf pc lv (.int x :: rest) M Q := by
  obtain ⟨p, l, e, R, s, m, args, below, meth, c, nL, D, cy, ad, st, A, kc, ks⟩ := Γ
  obtain ⟨hx, hb, hml, hown, hts, hR, hlk, hrt, hK, hZ, hN, hA, hnl, hkc, hks⟩ := hC
  intro H locs ls hl hP hD hS
  exact lv_tableOut hx hb hd h ht (k H locs ls hl hP hD hS)

theorem j_tabIn {Γ : jG} {G : List (Nat × Nat)} {Rf : Nat → Nat → Option Nat} {cc : ByteArray} {nl : Nat} {own : String} {ret : Option FieldType} {rm : Room} {pc pc' : Nat} {lv : List (Nat × Value)} {rest : List Value} {M : jM} {Q : State → Prop} {dflt lo hi : Int} {offs : Array Int} {len : Nat} {x : Int32} {off : Int} {tgt : Nat} (hC : jOK Γ cc nl own ret rm) (hd : decode cc pc = .ok (.tableswitch dflt lo hi offs, len)) (h1 : ¬ x.toInt < lo) (h2 : ¬ hi < x.toInt) (ho : offs[(x.toInt - lo).toNat]? = some off) (ht : (pc : Int) + off = (tgt : Int)) (k : jJ Γ G Rf tgt lv rest M Q) : jJ Γ G Rf pc lv (.int x :: rest) M Q := by
  obtain ⟨p, l, e, R, s, m, args, below, meth, c, nL, D, cy, ad, st, A, kc, ks⟩ := Γ
  obtain ⟨hx, hb, hml, hown, hts, hR, hlk, hrt, hK, hZ, hN, hA, hnl, hkc, hks⟩ := hC
  intro H locs ls hl hP hD hS
  exact lv_tableIn hx hb hd h1 h2 ho ht (k H locs ls hl hP hD hS)

def jcls (ci : Nat) (C : String) (T : u_T) (N : Nat) (ty : Nat → FieldType) : Prop := vwCl[ci]? = some (C, T, N) ∧ (∀ w ∈ u_ws C T N, w ∈ jtb) ∧ (∀ k, k < N → parseFieldDescriptor (T k).2.2.1 = some (ty k)) ∧ (∀ a, a < N → ∀ b, b < N → a ≠ b → (T a).2.1 ≠ (T b).2.1)
theorem jcell_0 {cy : Nat → ClassId} {ad : Nat → Nat} {R : Nat → Nat → Option Nat} {M : jM} {o n : Nat} : jcell cy ad R M o (0, n) = .inl (cy 0, n, .inl (gi M o)) := rfl
theorem jcell_1 {cy : Nat → ClassId} {ad : Nat → Nat} {R : Nat → Nat → Option Nat} {M : jM} {o n : Nat} : jcell cy ad R M o (1, n) = .inl (cy 1, n, .inr (.inl (gl M o))) := rfl
theorem jcell_2 {cy : Nat → ClassId} {ad : Nat → Nat} {R : Nat → Nat → Option Nat} {M : jM} {o n : Nat} : jcell cy ad R M o (2, n) = .inl (cy 2, n, .inl (gi M o)) := rfl
theorem jcell_o {cy : Nat → ClassId} {ad : Nat → Nat} {R : Nat → Nat → Option Nat} {M : jM} {o ci n : Nat} : jcell cy ad R M o (10 + ci, n) = .inr (ci, jfs ad R M o (jft ci)) := by
  unfold jcell
  rw [if_neg (show ¬ 10 + ci = 0 by omega), if_neg (show ¬ 10 + ci = 1 by omega), if_neg (show ¬ 10 + ci = 2 by omega), if_neg (show ¬ 10 + ci = 3 by omega), if_neg (show ¬ 10 + ci = 4 by omega), show 10 + ci - 10 = ci by omega]
theorem jfs_at {ad : Nat → Nat} {R : Nat → Nat → Option Nat} {M : jM} {o k t : Nat} {ts : List Nat} (h : ts[k]? = some t) : (jfs ad R M o ts)[k]? = some (jval ad R M o k t) := by
  simp [jfs, List.getElem?_mapIdx, h]
theorem jfs_len {ad : Nat → Nat} {R : Nat → Nat → Option Nat} {M : jM} {o : Nat} {ts : List Nat} : (jfs ad R M o ts).length = ts.length := by simp [jfs]

theorem j_geti {Γ : jG} {G : List (Nat × Nat)} {Rf : Nat → Nat → Option Nat} {cc : ByteArray} {nl : Nat} {own : String} {ret : Option FieldType} {rm : Room} {pc pc' : Nat} {lv : List (Nat × Value)} {rest : List Value} {M : jM} {Q : State → Prop} {o ci n k N index : Nat} {C : String} {T : u_T} {ty : Nat → FieldType} (hC : jOK Γ cc nl own ret rm) (hd : decode cc pc = .ok (.getfield index, 3)) (hp : pc + 3 = pc') (hc : jcls ci C T N ty) (hG : G[o]? = some (10 + ci, n)) (hk : k < N) (hw : Cond.fieldLink own index (T k).1 (T k).2.1 (T k).2.2.1 ∈ jtb) (hf : (jft ci)[k]? = some 0)  (k' : jJ Γ G Rf pc' lv (.int (gi M o k) :: rest) M Q) : jJ Γ G Rf pc lv (.ref (jad Γ o) :: rest) M Q := by
  subst hp
  obtain ⟨p, l, e, R, s, m, args, below, meth, c, nL, D, cy, ad, st, A, kc, ks⟩ := Γ
  obtain ⟨hx, hb, hml, hown, hts, hR, hlk, hrt, hK, hZ, hN, hA, hnl, hkc, hks⟩ := hC
  intro H locs ls hl hP hD hS
  have he := jws_at (cy := cy) (ad := ad) (R := Rf) (M := M) hG
  rw [jcell_o] at he
  refine va_get (D := D) hx hb hts hc.2.1 hown hK hP o he hc.1 k hk (hts _ hw) (fun _ h => h) (jfs_at hf) hd ?_
  exact k' H locs ls hl hP hD hS

theorem j_getl {Γ : jG} {G : List (Nat × Nat)} {Rf : Nat → Nat → Option Nat} {cc : ByteArray} {nl : Nat} {own : String} {ret : Option FieldType} {rm : Room} {pc pc' : Nat} {lv : List (Nat × Value)} {rest : List Value} {M : jM} {Q : State → Prop} {o ci n k N index : Nat} {C : String} {T : u_T} {ty : Nat → FieldType} (hC : jOK Γ cc nl own ret rm) (hd : decode cc pc = .ok (.getfield index, 3)) (hp : pc + 3 = pc') (hc : jcls ci C T N ty) (hG : G[o]? = some (10 + ci, n)) (hk : k < N) (hw : Cond.fieldLink own index (T k).1 (T k).2.1 (T k).2.2.1 ∈ jtb) (hf : (jft ci)[k]? = some 1)  (k' : jJ Γ G Rf pc' lv (.long (gl M o k) :: rest) M Q) : jJ Γ G Rf pc lv (.ref (jad Γ o) :: rest) M Q := by
  subst hp
  obtain ⟨p, l, e, R, s, m, args, below, meth, c, nL, D, cy, ad, st, A, kc, ks⟩ := Γ
  obtain ⟨hx, hb, hml, hown, hts, hR, hlk, hrt, hK, hZ, hN, hA, hnl, hkc, hks⟩ := hC
  intro H locs ls hl hP hD hS
  have he := jws_at (cy := cy) (ad := ad) (R := Rf) (M := M) hG
  rw [jcell_o] at he
  refine va_get (D := D) hx hb hts hc.2.1 hown hK hP o he hc.1 k hk (hts _ hw) (fun _ h => h) (jfs_at hf) hd ?_
  exact k' H locs ls hl hP hD hS

theorem j_getr {Γ : jG} {G : List (Nat × Nat)} {Rf : Nat → Nat → Option Nat} {cc : ByteArray} {nl : Nat} {own : String} {ret : Option FieldType} {rm : Room} {pc pc' : Nat} {lv : List (Nat × Value)} {rest : List Value} {M : jM} {Q : State → Prop} {o ci n k N index : Nat} {C : String} {T : u_T} {ty : Nat → FieldType} (hC : jOK Γ cc nl own ret rm) (hd : decode cc pc = .ok (.getfield index, 3)) (hp : pc + 3 = pc') (hc : jcls ci C T N ty) (hG : G[o]? = some (10 + ci, n)) (hk : k < N) (hw : Cond.fieldLink own index (T k).1 (T k).2.1 (T k).2.2.1 ∈ jtb) (hf : (jft ci)[k]? = some 2) {o2 : Nat} (hr : Rf o k = some o2) (k' : jJ Γ G Rf pc' lv (.ref (jad Γ o2) :: rest) M Q) : jJ Γ G Rf pc lv (.ref (jad Γ o) :: rest) M Q := by
  subst hp
  obtain ⟨p, l, e, R, s, m, args, below, meth, c, nL, D, cy, ad, st, A, kc, ks⟩ := Γ
  obtain ⟨hx, hb, hml, hown, hts, hR, hlk, hrt, hK, hZ, hN, hA, hnl, hkc, hks⟩ := hC
  intro H locs ls hl hP hD hS
  have he := jws_at (cy := cy) (ad := ad) (R := Rf) (M := M) hG
  rw [jcell_o] at he
  refine va_get (D := D) hx hb hts hc.2.1 hown hK hP o he hc.1 k hk (hts _ hw) (fun _ h => h) (jfs_at hf) hd ?_
  have e9 : jval ad Rf M o k 2 = .ref (ad o2) := by simp [jval, hr, va_rf]
  rw [e9]
  exact k' H locs ls hl hP hD hS

theorem j_getq {Γ : jG} {G : List (Nat × Nat)} {Rf : Nat → Nat → Option Nat} {cc : ByteArray} {nl : Nat} {own : String} {ret : Option FieldType} {rm : Room} {pc pc' : Nat} {lv : List (Nat × Value)} {rest : List Value} {M : jM} {Q : State → Prop} {o ci n k N index : Nat} {C : String} {T : u_T} {ty : Nat → FieldType} (hC : jOK Γ cc nl own ret rm) (hd : decode cc pc = .ok (.getfield index, 3)) (hp : pc + 3 = pc') (hc : jcls ci C T N ty) (hG : G[o]? = some (10 + ci, n)) (hk : k < N) (hw : Cond.fieldLink own index (T k).1 (T k).2.1 (T k).2.2.1 ∈ jtb) (hf : (jft ci)[k]? = some 3) (hr : ¬ gi M o k < 0) (k' : jJ Γ G Rf pc' lv (.ref (jad Γ (gi M o k).toNatClampNeg) :: rest) M Q) : jJ Γ G Rf pc lv (.ref (jad Γ o) :: rest) M Q := by
  subst hp
  obtain ⟨p, l, e, R, s, m, args, below, meth, c, nL, D, cy, ad, st, A, kc, ks⟩ := Γ
  obtain ⟨hx, hb, hml, hown, hts, hR, hlk, hrt, hK, hZ, hN, hA, hnl, hkc, hks⟩ := hC
  intro H locs ls hl hP hD hS
  have he := jws_at (cy := cy) (ad := ad) (R := Rf) (M := M) hG
  rw [jcell_o] at he
  refine va_get (D := D) hx hb hts hc.2.1 hown hK hP o he hc.1 k hk (hts _ hw) (fun _ h => h) (jfs_at hf) hd ?_
  have e9 : jval ad Rf M o k 3 = .ref (ad (gi M o k).toNatClampNeg) := by simp [jval, hr]
  rw [e9]
  exact k' H locs ls hl hP hD hS

theorem j_puti {Γ : jG} {G : List (Nat × Nat)} {Rf : Nat → Nat → Option Nat} {cc : ByteArray} {nl : Nat} {own : String} {ret : Option FieldType} {rm : Room} {pc pc' : Nat} {lv : List (Nat × Value)} {rest : List Value} {M : jM} {Q : State → Prop} {o ci n k N index : Nat} {C : String} {T : u_T} {ty : Nat → FieldType} {v : Int32} (hC : jOK Γ cc nl own ret rm) (hd : decode cc pc = .ok (.putfield index, 3)) (hp : pc + 3 = pc') (hc : jcls ci C T N ty) (hG : G[o]? = some (10 + ci, n)) (hk : k < N) (hw : Cond.fieldLink own index (T k).1 (T k).2.1 (T k).2.2.1 ∈ jtb) (hf : (jft ci)[k]? = some 0) (hfin : (T k).2.2.2 = false) (hty : ty k = .int)  (k' : jJ Γ G Rf pc' lv rest (si M o k v) Q) : jJ Γ G Rf pc lv (.int v :: .ref (jad Γ o) :: rest) M Q := by
  subst hp
  obtain ⟨p, l, e, R, s, m, args, below, meth, c, nL, D, cy, ad, st, A, kc, ks⟩ := Γ
  obtain ⟨hx, hb, hml, hown, hts, hR, hlk, hrt, hK, hZ, hN, hA, hnl, hkc, hks⟩ := hC
  intro H locs ls hl hP hD hS
  have he := jws_at (cy := cy) (ad := ad) (R := Rf) (M := M) hG
  rw [jcell_o] at he
  refine va_put (D := D) hx hb hts hc.2.1 ty hc.2.2.1 hc.2.2.2 hown hK hP hD hS o he hc.1 k hk (hts _ hw) (fun _ h => h) hfin (ty := .int) (by rw [← hty]; exact hc.2.2.1 k hk) rfl rfl (by rw [jfs_len]; exact (List.getElem?_eq_some_iff.mp hf).1) hd (fun H1 locs1 hP1 hD1 hS1 => ?_)
  have e9 : (jws cy ad Rf M G).set o (ad o, .inr (ci, (jfs ad Rf M o (jft ci)).set k (.int v))) = jws cy ad Rf (si M o k v) G := jws_set hG (by rw [jcell_o, jfs_si (Or.inl ⟨hf, rfl⟩)]) (fun a b h => by simp [gi_si, gi_sl, h]) (fun a b h => by simp [gl_si, gl_sl, h])
  have hP2 : va_P D vwCl (jws cy ad Rf (si M o k v) G) H1 := by rw [← e9]; exact hP1
  have hD2 : va_D A (jws cy ad Rf (si M o k v) G) := by rw [← e9]; exact hD1
  exact k' H1 locs1 ls hl hP2 hD2 hS1

theorem j_putl {Γ : jG} {G : List (Nat × Nat)} {Rf : Nat → Nat → Option Nat} {cc : ByteArray} {nl : Nat} {own : String} {ret : Option FieldType} {rm : Room} {pc pc' : Nat} {lv : List (Nat × Value)} {rest : List Value} {M : jM} {Q : State → Prop} {o ci n k N index : Nat} {C : String} {T : u_T} {ty : Nat → FieldType} {v : Int64} (hC : jOK Γ cc nl own ret rm) (hd : decode cc pc = .ok (.putfield index, 3)) (hp : pc + 3 = pc') (hc : jcls ci C T N ty) (hG : G[o]? = some (10 + ci, n)) (hk : k < N) (hw : Cond.fieldLink own index (T k).1 (T k).2.1 (T k).2.2.1 ∈ jtb) (hf : (jft ci)[k]? = some 1) (hfin : (T k).2.2.2 = false) (hty : ty k = .long)  (k' : jJ Γ G Rf pc' lv rest (sl M o k v) Q) : jJ Γ G Rf pc lv (.long v :: .ref (jad Γ o) :: rest) M Q := by
  subst hp
  obtain ⟨p, l, e, R, s, m, args, below, meth, c, nL, D, cy, ad, st, A, kc, ks⟩ := Γ
  obtain ⟨hx, hb, hml, hown, hts, hR, hlk, hrt, hK, hZ, hN, hA, hnl, hkc, hks⟩ := hC
  intro H locs ls hl hP hD hS
  have he := jws_at (cy := cy) (ad := ad) (R := Rf) (M := M) hG
  rw [jcell_o] at he
  refine va_put (D := D) hx hb hts hc.2.1 ty hc.2.2.1 hc.2.2.2 hown hK hP hD hS o he hc.1 k hk (hts _ hw) (fun _ h => h) hfin (ty := .long) (by rw [← hty]; exact hc.2.2.1 k hk) rfl rfl (by rw [jfs_len]; exact (List.getElem?_eq_some_iff.mp hf).1) hd (fun H1 locs1 hP1 hD1 hS1 => ?_)
  have e9 : (jws cy ad Rf M G).set o (ad o, .inr (ci, (jfs ad Rf M o (jft ci)).set k (.long v))) = jws cy ad Rf (sl M o k v) G := jws_set hG (by rw [jcell_o, jfs_sl hf]) (fun a b h => by simp [gi_si, gi_sl, h]) (fun a b h => by simp [gl_si, gl_sl, h])
  have hP2 : va_P D vwCl (jws cy ad Rf (sl M o k v) G) H1 := by rw [← e9]; exact hP1
  have hD2 : va_D A (jws cy ad Rf (sl M o k v) G) := by rw [← e9]; exact hD1
  exact k' H1 locs1 ls hl hP2 hD2 hS1

theorem j_putq {Γ : jG} {G : List (Nat × Nat)} {Rf : Nat → Nat → Option Nat} {cc : ByteArray} {nl : Nat} {own : String} {ret : Option FieldType} {rm : Room} {pc pc' : Nat} {lv : List (Nat × Value)} {rest : List Value} {M : jM} {Q : State → Prop} {o ci n k N index : Nat} {C : String} {T : u_T} {ty : Nat → FieldType} {ov : Nat} (hC : jOK Γ cc nl own ret rm) (hd : decode cc pc = .ok (.putfield index, 3)) (hp : pc + 3 = pc') (hc : jcls ci C T N ty) (hG : G[o]? = some (10 + ci, n)) (hk : k < N) (hw : Cond.fieldLink own index (T k).1 (T k).2.1 (T k).2.2.1 ∈ jtb) (hf : (jft ci)[k]? = some 3) (hfin : (T k).2.2.2 = false) (hty : ty k = .array .int) (hov : ov < 2 ^ 31) (k' : jJ Γ G Rf pc' lv rest (si M o k (nI ov)) Q) : jJ Γ G Rf pc lv (.ref (jad Γ ov) :: .ref (jad Γ o) :: rest) M Q := by
  subst hp
  obtain ⟨p, l, e, R, s, m, args, below, meth, c, nL, D, cy, ad, st, A, kc, ks⟩ := Γ
  obtain ⟨hx, hb, hml, hown, hts, hR, hlk, hrt, hK, hZ, hN, hA, hnl, hkc, hks⟩ := hC
  intro H locs ls hl hP hD hS
  have he := jws_at (cy := cy) (ad := ad) (R := Rf) (M := M) hG
  rw [jcell_o] at he
  refine va_put (D := D) hx hb hts hc.2.1 ty hc.2.2.1 hc.2.2.2 hown hK hP hD hS o he hc.1 k hk (hts _ hw) (fun _ h => h) hfin (ty := .array .int) (by rw [← hty]; exact hc.2.2.1 k hk) rfl rfl (by rw [jfs_len]; exact (List.getElem?_eq_some_iff.mp hf).1) hd (fun H1 locs1 hP1 hD1 hS1 => ?_)
  have e9 : (jws cy ad Rf M G).set o (ad o, .inr (ci, (jfs ad Rf M o (jft ci)).set k (.ref (ad ov)))) = jws cy ad Rf (si M o k (nI ov)) G := jws_set hG (by rw [jcell_o, jfs_si (Or.inr ⟨hf, by rw [if_neg (nI_pos hov), nI_clamp hov]⟩)]) (fun a b h => by simp [gi_si, gi_sl, h]) (fun a b h => by simp [gl_si, gl_sl, h])
  have hP2 : va_P D vwCl (jws cy ad Rf (si M o k (nI ov)) G) H1 := by rw [← e9]; exact hP1
  have hD2 : va_D A (jws cy ad Rf (si M o k (nI ov)) G) := by rw [← e9]; exact hD1
  exact k' H1 locs1 ls hl hP2 hD2 hS1

theorem j_iald {Γ : jG} {G : List (Nat × Nat)} {Rf : Nat → Nat → Option Nat} {cc : ByteArray} {nl : Nat} {own : String} {ret : Option FieldType} {rm : Room} {pc pc' : Nat} {lv : List (Nat × Value)} {rest : List Value} {M : jM} {Q : State → Prop} {o n : Nat} {i : Int32} (hC : jOK Γ cc nl own ret rm) (hd : decode cc pc = .ok (.iaload, 1)) (hp : pc + 1 = pc') (hG : G[o]? = some (0, n)) (hi : jin i n = true) (k' : jJ Γ G Rf pc' lv (.int (gi M o i.toNatClampNeg) :: rest) M Q) : jJ Γ G Rf pc lv (.int i :: .ref (jad Γ o) :: rest) M Q := by
  subst hp
  obtain ⟨p, l, e, R, s, m, args, below, meth, c, nL, D, cy, ad, st, A, kc, ks⟩ := Γ
  obtain ⟨hx, hb, hml, hown, hts, hR, hlk, hrt, hK, hZ, hN, hA, hnl, hkc, hks⟩ := hC
  intro H locs ls hl hP hD hS
  have he := jws_at (cy := cy) (ad := ad) (R := Rf) (M := M) hG
  exact va_iald (D := D) hx hb hK hP o 0 he rfl (jin_vp hi) hd (k' H locs ls hl hP hD hS)

theorem j_lald {Γ : jG} {G : List (Nat × Nat)} {Rf : Nat → Nat → Option Nat} {cc : ByteArray} {nl : Nat} {own : String} {ret : Option FieldType} {rm : Room} {pc pc' : Nat} {lv : List (Nat × Value)} {rest : List Value} {M : jM} {Q : State → Prop} {o n : Nat} {i : Int32} (hC : jOK Γ cc nl own ret rm) (hd : decode cc pc = .ok (.laload, 1)) (hp : pc + 1 = pc') (hG : G[o]? = some (1, n)) (hi : jin i n = true) (k' : jJ Γ G Rf pc' lv (.long (gl M o i.toNatClampNeg) :: rest) M Q) : jJ Γ G Rf pc lv (.int i :: .ref (jad Γ o) :: rest) M Q := by
  subst hp
  obtain ⟨p, l, e, R, s, m, args, below, meth, c, nL, D, cy, ad, st, A, kc, ks⟩ := Γ
  obtain ⟨hx, hb, hml, hown, hts, hR, hlk, hrt, hK, hZ, hN, hA, hnl, hkc, hks⟩ := hC
  intro H locs ls hl hP hD hS
  have he := jws_at (cy := cy) (ad := ad) (R := Rf) (M := M) hG
  exact va_lald (D := D) hx hb hK hP o 1 he rfl (jin_vp hi) hd (k' H locs ls hl hP hD hS)

theorem j_zald {Γ : jG} {G : List (Nat × Nat)} {Rf : Nat → Nat → Option Nat} {cc : ByteArray} {nl : Nat} {own : String} {ret : Option FieldType} {rm : Room} {pc pc' : Nat} {lv : List (Nat × Value)} {rest : List Value} {M : jM} {Q : State → Prop} {o n : Nat} {i : Int32} (hC : jOK Γ cc nl own ret rm) (hd : decode cc pc = .ok (.baload, 1)) (hp : pc + 1 = pc') (hG : G[o]? = some (2, n)) (hi : jin i n = true) (k' : jJ Γ G Rf pc' lv (.int (gi M o i.toNatClampNeg) :: rest) M Q) : jJ Γ G Rf pc lv (.int i :: .ref (jad Γ o) :: rest) M Q := by
  subst hp
  obtain ⟨p, l, e, R, s, m, args, below, meth, c, nL, D, cy, ad, st, A, kc, ks⟩ := Γ
  obtain ⟨hx, hb, hml, hown, hts, hR, hlk, hrt, hK, hZ, hN, hA, hnl, hkc, hks⟩ := hC
  intro H locs ls hl hP hD hS
  have he := jws_at (cy := cy) (ad := ad) (R := Rf) (M := M) hG
  exact va_zald (D := D) hx hb hK hP o 2 he rfl (jin_vp hi) hd (k' H locs ls hl hP hD hS)

theorem j_iast {Γ : jG} {G : List (Nat × Nat)} {Rf : Nat → Nat → Option Nat} {cc : ByteArray} {nl : Nat} {own : String} {ret : Option FieldType} {rm : Room} {pc pc' : Nat} {lv : List (Nat × Value)} {rest : List Value} {M : jM} {Q : State → Prop} {o n : Nat} {i : Int32} {v : Int32} (hC : jOK Γ cc nl own ret rm) (hd : decode cc pc = .ok (.iastore, 1)) (hp : pc + 1 = pc') (hG : G[o]? = some (0, n)) (hi : jin i n = true) (k' : jJ Γ G Rf pc' lv rest (si M o i.toNatClampNeg v) Q) : jJ Γ G Rf pc lv (.int v :: .int i :: .ref (jad Γ o) :: rest) M Q := by
  subst hp
  obtain ⟨p, l, e, R, s, m, args, below, meth, c, nL, D, cy, ad, st, A, kc, ks⟩ := Γ
  obtain ⟨hx, hb, hml, hown, hts, hR, hlk, hrt, hK, hZ, hN, hA, hnl, hkc, hks⟩ := hC
  intro H locs ls hl hP hD hS
  have he := jws_at (cy := cy) (ad := ad) (R := Rf) (M := M) hG
  refine va_iast (D := D) hx hb hK hP hD hS o 0 he rfl (jin_vp hi) hd (fun H1 locs1 hP1 hD1 hS1 => ?_)
  have e9 : (jws cy ad Rf M G).set o (ad o, .inl (cy 0, n, .inl (upd (gi M o) i.toNatClampNeg v))) = jws cy ad Rf (si M o i.toNatClampNeg v) G := jws_set hG (by
    show _ = jcell cy ad Rf (si M o i.toNatClampNeg v) o (0, n)
    rw [jcell_0]
    congr 4
    funext j
    simp [upd, vp_updL, gi_si, gl_sl]) (fun a b h => by simp [gi_si, gi_sl, h]) (fun a b h => by simp [gl_si, gl_sl, h])
  have hP2 : va_P D vwCl (jws cy ad Rf (si M o i.toNatClampNeg v) G) H1 := by rw [← e9]; exact hP1
  have hD2 : va_D A (jws cy ad Rf (si M o i.toNatClampNeg v) G) := by rw [← e9]; exact hD1
  exact k' H1 locs1 ls hl hP2 hD2 hS1

theorem j_last {Γ : jG} {G : List (Nat × Nat)} {Rf : Nat → Nat → Option Nat} {cc : ByteArray} {nl : Nat} {own : String} {ret : Option FieldType} {rm : Room} {pc pc' : Nat} {lv : List (Nat × Value)} {rest : List Value} {M : jM} {Q : State → Prop} {o n : Nat} {i : Int32} {v : Int64} (hC : jOK Γ cc nl own ret rm) (hd : decode cc pc = .ok (.lastore, 1)) (hp : pc + 1 = pc') (hG : G[o]? = some (1, n)) (hi : jin i n = true) (k' : jJ Γ G Rf pc' lv rest (sl M o i.toNatClampNeg v) Q) : jJ Γ G Rf pc lv (.long v :: .int i :: .ref (jad Γ o) :: rest) M Q := by
  subst hp
  obtain ⟨p, l, e, R, s, m, args, below, meth, c, nL, D, cy, ad, st, A, kc, ks⟩ := Γ
  obtain ⟨hx, hb, hml, hown, hts, hR, hlk, hrt, hK, hZ, hN, hA, hnl, hkc, hks⟩ := hC
  intro H locs ls hl hP hD hS
  have he := jws_at (cy := cy) (ad := ad) (R := Rf) (M := M) hG
  refine va_last (D := D) hx hb hK hP hD hS o 1 he rfl (jin_vp hi) hd (fun H1 locs1 hP1 hD1 hS1 => ?_)
  have e9 : (jws cy ad Rf M G).set o (ad o, .inl (cy 1, n, .inr (.inl (vp_updL (gl M o) i.toNatClampNeg v)))) = jws cy ad Rf (sl M o i.toNatClampNeg v) G := jws_set hG (by
    show _ = jcell cy ad Rf (sl M o i.toNatClampNeg v) o (1, n)
    rw [jcell_1]
    congr 5
    funext j
    simp [upd, vp_updL, gi_si, gl_sl]) (fun a b h => by simp [gi_si, gi_sl, h]) (fun a b h => by simp [gl_si, gl_sl, h])
  have hP2 : va_P D vwCl (jws cy ad Rf (sl M o i.toNatClampNeg v) G) H1 := by rw [← e9]; exact hP1
  have hD2 : va_D A (jws cy ad Rf (sl M o i.toNatClampNeg v) G) := by rw [← e9]; exact hD1
  exact k' H1 locs1 ls hl hP2 hD2 hS1

theorem j_zast {Γ : jG} {G : List (Nat × Nat)} {Rf : Nat → Nat → Option Nat} {cc : ByteArray} {nl : Nat} {own : String} {ret : Option FieldType} {rm : Room} {pc pc' : Nat} {lv : List (Nat × Value)} {rest : List Value} {M : jM} {Q : State → Prop} {o n : Nat} {i : Int32} {v : Int32} (hC : jOK Γ cc nl own ret rm) (hd : decode cc pc = .ok (.bastore, 1)) (hp : pc + 1 = pc') (hG : G[o]? = some (2, n)) (hi : jin i n = true) (k' : jJ Γ G Rf pc' lv rest (si M o i.toNatClampNeg (vp_nar .boolean v)) Q) : jJ Γ G Rf pc lv (.int v :: .int i :: .ref (jad Γ o) :: rest) M Q := by
  subst hp
  obtain ⟨p, l, e, R, s, m, args, below, meth, c, nL, D, cy, ad, st, A, kc, ks⟩ := Γ
  obtain ⟨hx, hb, hml, hown, hts, hR, hlk, hrt, hK, hZ, hN, hA, hnl, hkc, hks⟩ := hC
  intro H locs ls hl hP hD hS
  have he := jws_at (cy := cy) (ad := ad) (R := Rf) (M := M) hG
  refine va_zast (D := D) hx hb hK hP hD hS o 2 he rfl (jin_vp hi) hd (fun H1 locs1 hP1 hD1 hS1 => ?_)
  have e9 : (jws cy ad Rf M G).set o (ad o, .inl (cy 2, n, .inl (upd (gi M o) i.toNatClampNeg (vp_nar .boolean v)))) = jws cy ad Rf (si M o i.toNatClampNeg (vp_nar .boolean v)) G := jws_set hG (by
    show _ = jcell cy ad Rf (si M o i.toNatClampNeg (vp_nar .boolean v)) o (2, n)
    rw [jcell_2]
    congr 4
    funext j
    simp [upd, vp_updL, gi_si, gl_sl]) (fun a b h => by simp [gi_si, gi_sl, h]) (fun a b h => by simp [gl_si, gl_sl, h])
  have hP2 : va_P D vwCl (jws cy ad Rf (si M o i.toNatClampNeg (vp_nar .boolean v)) G) H1 := by rw [← e9]; exact hP1
  have hD2 : va_D A (jws cy ad Rf (si M o i.toNatClampNeg (vp_nar .boolean v)) G) := by rw [← e9]; exact hD1
  exact k' H1 locs1 ls hl hP2 hD2 hS1

theorem j_aald3 {Γ : jG} {G : List (Nat × Nat)} {Rf : Nat → Nat → Option Nat} {cc : ByteArray} {nl : Nat} {own : String} {ret : Option FieldType} {rm : Room} {pc pc' : Nat} {lv : List (Nat × Value)} {rest : List Value} {M : jM} {Q : State → Prop} {o n : Nat} {i : Int32} {o2 : Nat} (hC : jOK Γ cc nl own ret rm) (hd : decode cc pc = .ok (.aaload, 1)) (hp : pc + 1 = pc') (hG : G[o]? = some (3, n)) (hi : jin i n = true) (hr : Rf o i.toNatClampNeg = some o2) (k' : jJ Γ G Rf pc' lv (.ref (jad Γ o2) :: rest) M Q) : jJ Γ G Rf pc lv (.int i :: .ref (jad Γ o) :: rest) M Q := by
  subst hp
  obtain ⟨p, l, e, R, s, m, args, below, meth, c, nL, D, cy, ad, st, A, kc, ks⟩ := Γ
  obtain ⟨hx, hb, hml, hown, hts, hR, hlk, hrt, hK, hZ, hN, hA, hnl, hkc, hks⟩ := hC
  intro H locs ls hl hP hD hS
  have he := jws_at (cy := cy) (ad := ad) (R := Rf) (M := M) hG
  have hin := jin_vp hi
  have hlt : i.toNatClampNeg < n := Nat.not_le.mp fun q => hin (Or.inr q)
  have hk2 := k' H locs ls hl hP hD hS
  have e9 : va_rf ((Rf o i.toNatClampNeg).map ad) = .ref (ad o2) := by rw [hr]; rfl
  exact W.aald (v := .ref (ad o2)) (ty := .object "HoursByPost$Course") hx hb (hP o _ he) ((hK.2 3 _ rfl).1 n (fun j => va_rf ((Rf o j).map ad))) rfl (fun q => by cases q) (by show ¬ (i < 0 ∨ (arrV _ _ _).slots.size ≤ _); rw [arrV_size]; exact hin) (by show (arrV _ _ _).slots[_]? = _; rw [arrV_read _ _ hlt, e9]) rfl rfl hd hk2

theorem j_aald4 {Γ : jG} {G : List (Nat × Nat)} {Rf : Nat → Nat → Option Nat} {cc : ByteArray} {nl : Nat} {own : String} {ret : Option FieldType} {rm : Room} {pc pc' : Nat} {lv : List (Nat × Value)} {rest : List Value} {M : jM} {Q : State → Prop} {o n : Nat} {i : Int32} {o2 : Nat} (hC : jOK Γ cc nl own ret rm) (hd : decode cc pc = .ok (.aaload, 1)) (hp : pc + 1 = pc') (hG : G[o]? = some (4, n)) (hi : jin i n = true) (hr : Rf o i.toNatClampNeg = some o2) (k' : jJ Γ G Rf pc' lv (.ref (jad Γ o2) :: rest) M Q) : jJ Γ G Rf pc lv (.int i :: .ref (jad Γ o) :: rest) M Q := by
  subst hp
  obtain ⟨p, l, e, R, s, m, args, below, meth, c, nL, D, cy, ad, st, A, kc, ks⟩ := Γ
  obtain ⟨hx, hb, hml, hown, hts, hR, hlk, hrt, hK, hZ, hN, hA, hnl, hkc, hks⟩ := hC
  intro H locs ls hl hP hD hS
  have he := jws_at (cy := cy) (ad := ad) (R := Rf) (M := M) hG
  have hin := jin_vp hi
  have hlt : i.toNatClampNeg < n := Nat.not_le.mp fun q => hin (Or.inr q)
  have hk2 := k' H locs ls hl hP hD hS
  have e9 : va_rf ((Rf o i.toNatClampNeg).map ad) = .ref (ad o2) := by rw [hr]; rfl
  exact W.aald (v := .ref (ad o2)) (ty := .array .int) hx hb (hP o _ he) ((hK.2 4 _ rfl).1 n (fun j => va_rf ((Rf o j).map ad))) rfl (fun q => by cases q) (by show ¬ (i < 0 ∨ (arrV _ _ _).slots.size ≤ _); rw [arrV_size]; exact hin) (by show (arrV _ _ _).slots[_]? = _; rw [arrV_read _ _ hlt, e9]) rfl rfl hd hk2

theorem j_alen0 {Γ : jG} {G : List (Nat × Nat)} {Rf : Nat → Nat → Option Nat} {cc : ByteArray} {nl : Nat} {own : String} {ret : Option FieldType} {rm : Room} {pc pc' : Nat} {lv : List (Nat × Value)} {rest : List Value} {M : jM} {Q : State → Prop} {o n : Nat} {v : Int32} (hC : jOK Γ cc nl own ret rm) (hd : decode cc pc = .ok (.arraylength, 1)) (hp : pc + 1 = pc') (hG : G[o]? = some (0, n)) (hv : Int32.ofNat n = v) (k' : jJ Γ G Rf pc' lv (.int v :: rest) M Q) : jJ Γ G Rf pc lv (.ref (jad Γ o) :: rest) M Q := by
  subst hp
  obtain ⟨p, l, e, R, s, m, args, below, meth, c, nL, D, cy, ad, st, A, kc, ks⟩ := Γ
  obtain ⟨hx, hb, hml, hown, hts, hR, hlk, hrt, hK, hZ, hN, hA, hnl, hkc, hks⟩ := hC
  intro H locs ls hl hP hD hS
  have he := jws_at (cy := cy) (ad := ad) (R := Rf) (M := M) hG
  exact va_alen (D := D) hx hb hK hP o 0 he rfl hv hd (k' H locs ls hl hP hD hS)

theorem j_alen1 {Γ : jG} {G : List (Nat × Nat)} {Rf : Nat → Nat → Option Nat} {cc : ByteArray} {nl : Nat} {own : String} {ret : Option FieldType} {rm : Room} {pc pc' : Nat} {lv : List (Nat × Value)} {rest : List Value} {M : jM} {Q : State → Prop} {o n : Nat} {v : Int32} (hC : jOK Γ cc nl own ret rm) (hd : decode cc pc = .ok (.arraylength, 1)) (hp : pc + 1 = pc') (hG : G[o]? = some (1, n)) (hv : Int32.ofNat n = v) (k' : jJ Γ G Rf pc' lv (.int v :: rest) M Q) : jJ Γ G Rf pc lv (.ref (jad Γ o) :: rest) M Q := by
  subst hp
  obtain ⟨p, l, e, R, s, m, args, below, meth, c, nL, D, cy, ad, st, A, kc, ks⟩ := Γ
  obtain ⟨hx, hb, hml, hown, hts, hR, hlk, hrt, hK, hZ, hN, hA, hnl, hkc, hks⟩ := hC
  intro H locs ls hl hP hD hS
  have he := jws_at (cy := cy) (ad := ad) (R := Rf) (M := M) hG
  exact va_alen (D := D) hx hb hK hP o 1 he rfl hv hd (k' H locs ls hl hP hD hS)

theorem j_alen2 {Γ : jG} {G : List (Nat × Nat)} {Rf : Nat → Nat → Option Nat} {cc : ByteArray} {nl : Nat} {own : String} {ret : Option FieldType} {rm : Room} {pc pc' : Nat} {lv : List (Nat × Value)} {rest : List Value} {M : jM} {Q : State → Prop} {o n : Nat} {v : Int32} (hC : jOK Γ cc nl own ret rm) (hd : decode cc pc = .ok (.arraylength, 1)) (hp : pc + 1 = pc') (hG : G[o]? = some (2, n)) (hv : Int32.ofNat n = v) (k' : jJ Γ G Rf pc' lv (.int v :: rest) M Q) : jJ Γ G Rf pc lv (.ref (jad Γ o) :: rest) M Q := by
  subst hp
  obtain ⟨p, l, e, R, s, m, args, below, meth, c, nL, D, cy, ad, st, A, kc, ks⟩ := Γ
  obtain ⟨hx, hb, hml, hown, hts, hR, hlk, hrt, hK, hZ, hN, hA, hnl, hkc, hks⟩ := hC
  intro H locs ls hl hP hD hS
  have he := jws_at (cy := cy) (ad := ad) (R := Rf) (M := M) hG
  exact va_alen (D := D) hx hb hK hP o 2 he rfl hv hd (k' H locs ls hl hP hD hS)

theorem j_gets {Γ : jG} {G : List (Nat × Nat)} {Rf : Nat → Nat → Option Nat} {cc : ByteArray} {nl : Nat} {own : String} {ret : Option FieldType} {rm : Room} {pc pc' : Nat} {lv : List (Nat × Value)} {rest : List Value} {M : jM} {Q : State → Prop} (j : Nat) {index : Nat} (hC : jOK Γ cc nl own ret rm) (hd : decode cc pc = .ok (.getstatic index, 3)) (hp : pc + 3 = pc') (hj : j < 5) (hw : Cond.fieldLinkNest own index "HoursByPost" (jsn j) (jsd j) "HoursByPost" ∈ jnw) (k' : jJ Γ G Rf pc' lv (.ref (jst Γ j) :: rest) M Q) : jJ Γ G Rf pc lv rest M Q := by
  subst hp
  obtain ⟨p, l, e, R, s, m, args, below, meth, c, nL, D, cy, ad, st, A, kc, ks⟩ := Γ
  obtain ⟨hx, hb, hml, hown, hts, hR, hlk, hrt, hK, hZ, hN, hA, hnl, hkc, hks⟩ := hC
  intro H locs ls hl hP hD hS
  exact va_getsN hx hb (hZ j hj).1 hS hown (va_Nw.use rfl (hN _ hw)) (fun _ h => h) hd (k' H locs ls hl hP hD hS)

theorem j_sldi {Γ : jG} {G : List (Nat × Nat)} {Rf : Nat → Nat → Option Nat} {cc : ByteArray} {nl : Nat} {own : String} {ret : Option FieldType} {rm : Room} {pc pc' : Nat} {lv : List (Nat × Value)} {rest : List Value} {M : jM} {Q : State → Prop} (j : Nat) {i : Int32} (hC : jOK Γ cc nl own ret rm) (hd : decode cc pc = .ok (.iaload, 1)) (hp : pc + 1 = pc') (hj : j < 3) (hi : jin i (jslen j) = true) (k' : jJ Γ G Rf pc' lv (.int ((jsI j).getD i.toNatClampNeg 0) :: rest) M Q) : jJ Γ G Rf pc lv (.int i :: .ref (jst Γ j) :: rest) M Q := by
  subst hp
  obtain ⟨p, l, e, R, s, m, args, below, meth, c, nL, D, cy, ad, st, A, kc, ks⟩ := Γ
  obtain ⟨hx, hb, hml, hown, hts, hR, hlk, hrt, hK, hZ, hN, hA, hnl, hkc, hks⟩ := hC
  intro H locs ls hl hP hD hS
  have ht : jsty j = .int := by rcases (show j = 0 ∨ j = 1 ∨ j = 2 by omega) with rfl | rfl | rfl <;> rfl
  have hT := (hZ j (by omega)).2
  rw [ht] at hT
  exact va_ti hx hb hT hS (jin_vp hi) (by simp [jsv, hj]) hd (k' H locs ls hl hP hD hS)

theorem j_sldl {Γ : jG} {G : List (Nat × Nat)} {Rf : Nat → Nat → Option Nat} {cc : ByteArray} {nl : Nat} {own : String} {ret : Option FieldType} {rm : Room} {pc pc' : Nat} {lv : List (Nat × Value)} {rest : List Value} {M : jM} {Q : State → Prop} (j : Nat) {i : Int32} (hC : jOK Γ cc nl own ret rm) (hd : decode cc pc = .ok (.laload, 1)) (hp : pc + 1 = pc') (hj : j = 3 ∨ j = 4) (hi : jin i (jslen j) = true) (k' : jJ Γ G Rf pc' lv (.long ((jsL j).getD i.toNatClampNeg 0) :: rest) M Q) : jJ Γ G Rf pc lv (.int i :: .ref (jst Γ j) :: rest) M Q := by
  subst hp
  obtain ⟨p, l, e, R, s, m, args, below, meth, c, nL, D, cy, ad, st, A, kc, ks⟩ := Γ
  obtain ⟨hx, hb, hml, hown, hts, hR, hlk, hrt, hK, hZ, hN, hA, hnl, hkc, hks⟩ := hC
  intro H locs ls hl hP hD hS
  have ht : jsty j = .long := by rcases hj with rfl | rfl <;> rfl
  have hT := (hZ j (by omega)).2
  rw [ht] at hT
  exact va_tl hx hb hT hS (jin_vp hi) (by simp [jsv, show ¬ j < 3 by omega]) hd (k' H locs ls hl hP hD hS)

theorem j_slen {Γ : jG} {G : List (Nat × Nat)} {Rf : Nat → Nat → Option Nat} {cc : ByteArray} {nl : Nat} {own : String} {ret : Option FieldType} {rm : Room} {pc pc' : Nat} {lv : List (Nat × Value)} {rest : List Value} {M : jM} {Q : State → Prop} (j : Nat) {v : Int32} (hC : jOK Γ cc nl own ret rm) (hd : decode cc pc = .ok (.arraylength, 1)) (hp : pc + 1 = pc') (hj : j < 5) (hv : Int32.ofNat (jslen j) = v) (k' : jJ Γ G Rf pc' lv (.int v :: rest) M Q) : jJ Γ G Rf pc lv (.ref (jst Γ j) :: rest) M Q := by
  subst hp
  obtain ⟨p, l, e, R, s, m, args, below, meth, c, nL, D, cy, ad, st, A, kc, ks⟩ := Γ
  obtain ⟨hx, hb, hml, hown, hts, hR, hlk, hrt, hK, hZ, hN, hA, hnl, hkc, hks⟩ := hC
  intro H locs ls hl hP hD hS
  exact va_tlen hx hb (hZ j hj).2 hS hv hd (k' H locs ls hl hP hD hS)
