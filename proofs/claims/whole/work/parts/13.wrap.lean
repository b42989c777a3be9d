def jfl (own : String) (index ci : Nat) (C : String) (T : u_T) (N : Nat) (ty : Nat → FieldType) (k t : Nat) : Prop := jcls ci C T N ty ∧ k < N ∧ Cond.fieldLink own index (T k).1 (T k).2.1 (T k).2.2.1 ∈ jtb ∧ (jft ci)[k]? = some t
def jfp (own : String) (index ci : Nat) (C : String) (T : u_T) (N : Nat) (ty : Nat → FieldType) (k t : Nat) (tv : FieldType) : Prop := jfl own index ci C T N ty k t ∧ (T k).2.2.2 = false ∧ ty k = tv

theorem j_geti' {Γ : jG} {G : List (Nat × Nat)} {Rf : Nat → Nat → Option Nat} {cc : ByteArray} {nl : Nat} {own : String} {ret : Option FieldType} {rm : Room} {pc pc' : Nat} {lv : List (Nat × Value)} {rest : List Value} {M : jM} {Q : State → Prop} {o ci n k N index : Nat} {C : String} {T : u_T} {ty : Nat → FieldType} (hC : jOK Γ cc nl own ret rm) (hd : decode cc pc = .ok (.getfield index, 3)) (hp : pc + 3 = pc') (hL : jfl own index ci C T N ty k 0) (hG : G[o]? = some (10 + ci, n))  (k' : jJ Γ G Rf pc' lv (.int (gi M o k) :: rest) M Q) : jJ Γ G Rf pc lv (.ref (jad Γ o) :: rest) M Q := j_geti hC hd hp hL.1 hG hL.2.1 hL.2.2.1 hL.2.2.2  k'
theorem j_getl' {Γ : jG} {G : List (Nat × Nat)} {Rf : Nat → Nat → Option Nat} {cc : ByteArray} {nl : Nat} {own : String} {ret : Option FieldType} {rm : Room} {pc pc' : Nat} {lv : List (Nat × Value)} {rest : List Value} {M : jM} {Q : State → Prop} {o ci n k N index : Nat} {C : String} {T : u_T} {ty : Nat → FieldType} (hC : jOK Γ cc nl own ret rm) (hd : decode cc pc = .ok (.getfield index, 3)) (hp : pc + 3 = pc') (hL : jfl own index ci C T N ty k 1) (hG : G[o]? = some (10 + ci, n))  (k' : jJ Γ G Rf pc' lv (.long (gl M o k) :: rest) M Q) : jJ Γ G Rf pc lv (.ref (jad Γ o) :: rest) M Q := j_getl hC hd hp hL.1 hG hL.2.1 hL.2.2.1 hL.2.2.2  k'
theorem j_getr' {Γ : jG} {G : List (Nat × Nat)} {Rf : Nat → Nat → Option Nat} {cc : ByteArray} {nl : Nat} {own : String} {ret : Option FieldType} {rm : Room} {pc pc' : Nat} {lv : List (Nat × Value)} {rest : List Value} {M : jM} {Q : State → Prop} {o ci n k N index : Nat} {C : String} {T : u_T} {ty : Nat → FieldType} (hC : jOK Γ cc nl own ret rm) (hd : decode cc pc = .ok (.getfield index, 3)) (hp : pc + 3 = pc') (hL : jfl own index ci C T N ty k 2) (hG : G[o]? = some (10 + ci, n)) {o2 : Nat} (hr : Rf o k = some o2) (k' : jJ Γ G Rf pc' lv (.ref (jad Γ o2) :: rest) M Q) : jJ Γ G Rf pc lv (.ref (jad Γ o) :: rest) M Q := j_getr hC hd hp hL.1 hG hL.2.1 hL.2.2.1 hL.2.2.2 hr k'
theorem j_getq' {Γ : jG} {G : List (Nat × Nat)} {Rf : Nat → Nat → Option Nat} {cc : ByteArray} {nl : Nat} {own : String} {ret : Option FieldType} {rm : Room} {pc pc' : Nat} {lv : List (Nat × Value)} {rest : List Value} {M : jM} {Q : State → Prop} {o ci n k N index : Nat} {C : String} {T : u_T} {ty : Nat → FieldType} (hC : jOK Γ cc nl own ret rm) (hd : decode cc pc = .ok (.getfield index, 3)) (hp : pc + 3 = pc') (hL : jfl own index ci C T N ty k 3) (hG : G[o]? = some (10 + ci, n)) (hr : ¬ gi M o k < 0) (k' : jJ Γ G Rf pc' lv (.ref (jad Γ (gi M o k).toNatClampNeg) :: rest) M Q) : jJ Γ G Rf pc lv (.ref (jad Γ o) :: rest) M Q := j_getq hC hd hp hL.1 hG hL.2.1 hL.2.2.1 hL.2.2.2 hr k'
theorem j_puti' {Γ : jG} {G : List (Nat × Nat)} {Rf : Nat → Nat → Option Nat} {cc : ByteArray} {nl : Nat} {own : String} {ret : Option FieldType} {rm : Room} {pc pc' : Nat} {lv : List (Nat × Value)} {rest : List Value} {M : jM} {Q : State → Prop} {o ci n k N index : Nat} {C : String} {T : u_T} {ty : Nat → FieldType} {v : Int32} {M2 : jM} (hC : jOK Γ cc nl own ret rm) (hd : decode cc pc = .ok (.putfield index, 3)) (hp : pc + 3 = pc') (hL : jfp own index ci C T N ty k 0 (.int)) (hG : G[o]? = some (10 + ci, n))  (hM2 : si M o k v = M2) (k' : jJ Γ G Rf pc' lv rest M2 Q) : jJ Γ G Rf pc lv (.int v :: .ref (jad Γ o) :: rest) M Q := by
  subst hM2
  exact j_puti hC hd hp hL.1.1 hG hL.1.2.1 hL.1.2.2.1 hL.1.2.2.2 hL.2.1 hL.2.2  k'
theorem j_putl' {Γ : jG} {G : List (Nat × Nat)} {Rf : Nat → Nat → Option Nat} {cc : ByteArray} {nl : Nat} {own : String} {ret : Option FieldType} {rm : Room} {pc pc' : Nat} {lv : List (Nat × Value)} {rest : List Value} {M : jM} {Q : State → Prop} {o ci n k N index : Nat} {C : String} {T : u_T} {ty : Nat → FieldType} {v : Int64} {M2 : jM} (hC : jOK Γ cc nl own ret rm) (hd : decode cc pc = .ok (.putfield index, 3)) (hp : pc + 3 = pc') (hL : jfp own index ci C T N ty k 1 (.long)) (hG : G[o]? = some (10 + ci, n))  (hM2 : sl M o k v = M2) (k' : jJ Γ G Rf pc' lv rest M2 Q) : jJ Γ G Rf pc lv (.long v :: .ref (jad Γ o) :: rest) M Q := by
  subst hM2
  exact j_putl hC hd hp hL.1.1 hG hL.1.2.1 hL.1.2.2.1 hL.1.2.2.2 hL.2.1 hL.2.2  k'
theorem j_putq' {Γ : jG} {G : List (Nat × Nat)} {Rf : Nat → Nat → Option Nat} {cc : ByteArray} {nl : Nat} {own : String} {ret : Option FieldType} {rm : Room} {pc pc' : Nat} {lv : List (Nat × Value)} {rest : List Value} {M : jM} {Q : State → Prop} {o ci n k N index : Nat} {C : String} {T : u_T} {ty : Nat → FieldType} {ov : Nat} {M2 : jM} (hC : jOK Γ cc nl own ret rm) (hd : decode cc pc = .ok (.putfield index, 3)) (hp : pc + 3 = pc') (hL : jfp own index ci C T N ty k 3 (.array .int)) (hG : G[o]? = some (10 + ci, n)) (hov : ov < 2 ^ 31) (hM2 : si M o k (nI ov) = M2) (k' : jJ Γ G Rf pc' lv rest M2 Q) : jJ Γ G Rf pc lv (.ref (jad Γ ov) :: .ref (jad Γ o) :: rest) M Q := by
  subst hM2
  exact j_putq hC hd hp hL.1.1 hG hL.1.2.1 hL.1.2.2.1 hL.1.2.2.2 hL.2.1 hL.2.2 hov k'
theorem j_iast' {Γ : jG} {G : List (Nat × Nat)} {Rf : Nat → Nat → Option Nat} {cc : ByteArray} {nl : Nat} {own : String} {ret : Option FieldType} {rm : Room} {pc pc' : Nat} {lv : List (Nat × Value)} {rest : List Value} {M : jM} {Q : State → Prop} {o n : Nat} {i : Int32} {v : Int32} {M2 : jM} (hC : jOK Γ cc nl own ret rm) (hd : decode cc pc = .ok (.iastore, 1)) (hp : pc + 1 = pc') (hG : G[o]? = some (0, n)) (hi : jin i n = true) (hM2 : si M o i.toNatClampNeg v = M2) (k' : jJ Γ G Rf pc' lv rest M2 Q) : jJ Γ G Rf pc lv (.int v :: .int i :: .ref (jad Γ o) :: rest) M Q := by
  subst hM2
  exact j_iast hC hd hp hG hi k'
theorem j_last' {Γ : jG} {G : List (Nat × Nat)} {Rf : Nat → Nat → Option Nat} {cc : ByteArray} {nl : Nat} {own : String} {ret : Option FieldType} {rm : Room} {pc pc' : Nat} {lv : List (Nat × Value)} {rest : List Value} {M : jM} {Q : State → Prop} {o n : Nat} {i : Int32} {v : Int64} {M2 : jM} (hC : jOK Γ cc nl own ret rm) (hd : decode cc pc = .ok (.lastore, 1)) (hp : pc + 1 = pc') (hG : G[o]? = some (1, n)) (hi : jin i n = true) (hM2 : sl M o i.toNatClampNeg v = M2) (k' : jJ Γ G Rf pc' lv rest M2 Q) : jJ Γ G Rf pc lv (.long v :: .int i :: .ref (jad Γ o) :: rest) M Q := by
  subst hM2
  exact j_last hC hd hp hG hi k'
theorem j_zast' {Γ : jG} {G : List (Nat × Nat)} {Rf : Nat → Nat → Option Nat} {cc : ByteArray} {nl : Nat} {own : String} {ret : Option FieldType} {rm : Room} {pc pc' : Nat} {lv : List (Nat × Value)} {rest : List Value} {M : jM} {Q : State → Prop} {o n : Nat} {i : Int32} {v : Int32} {M2 : jM} (hC : jOK Γ cc nl own ret rm) (hd : decode cc pc = .ok (.bastore, 1)) (hp : pc + 1 = pc') (hG : G[o]? = some (2, n)) (hi : jin i n = true) (hM2 : si M o i.toNatClampNeg (vp_nar .boolean v) = M2) (k' : jJ Γ G Rf pc' lv rest M2 Q) : jJ Γ G Rf pc lv (.int v :: .int i :: .ref (jad Γ o) :: rest) M Q := by
  subst hM2
  exact j_zast hC hd hp hG hi k'
theorem j_acopy' {Γ : jG} {G : List (Nat × Nat)} {Rf : Nat → Nat → Option Nat} {cc : ByteArray} {nl : Nat} {own : String} {ret : Option FieldType} {rm : Room} {pc pc' : Nat} {lv : List (Nat × Value)} {rest : List Value} {M : jM} {Q : State → Prop} {o1 o2 n1 n2 index : Nat} {sp dp n : Int32} {M2 : jM} (hC : jOK Γ cc nl own ret rm) (hd : decode cc pc = .ok (.invokestatic index, 3)) (hp : pc + 3 = pc') (hw : Cond.methodLink own index arraycopyName ∈ jtb ∧ Cond.native arraycopyName ∈ jtb ∧ Cond.static arraycopyName ∈ jtb ∧ Cond.initialized "java/lang/System" ∈ jtb) (hG1 : G[o1]? = some (0, n1)) (hG2 : G[o2]? = some (0, n2)) (hk : jcok sp dp n n1 n2 = true) (hr : 1 ≤ rm.frames ∧ (rest.map fun v => v.category).sum + (nativeFrameWords "java/lang/System" "arraycopy" 5 + 11) ≤ rm.locals) (hM2 : jcp M (gi M o1) sp.toNatClampNeg o2 dp.toNatClampNeg n.toNatClampNeg = M2) (k' : jJ Γ G Rf pc' lv rest M2 Q) : jJ Γ G Rf pc lv (.int n :: .int dp :: .ref (jad Γ o2) :: .int sp :: .ref (jad Γ o1) :: rest) M Q := by
  subst hM2
  exact j_acopy hC hd hp hw hG1 hG2 hk hr k'
theorem j_sub {Γ : jG} {G : List (Nat × Nat)} {Rf : Nat → Nat → Option Nat} {pc : Nat} {lv : List (Nat × Value)} {rest : List Value} {M : jM} {Q : State → Prop} {lv' : List (Nat × Value)} (ks : List Nat) (h : lv_pick lv ks = lv') (k : jJ Γ G Rf pc lv' rest M Q) : jJ Γ G Rf pc lv rest M Q := by
  obtain ⟨p, l, e, R, s, m, args, below, meth, c, nL, D, cy, ad, st, A, kc, ks'⟩ := Γ
  intro H locs ls hl hP hD hS
  exact k H locs ls (lv_sub hl ks h) hP hD hS
theorem j_tab {Γ : jG} {G : List (Nat × Nat)} {Rf : Nat → Nat → Option Nat} {cc : ByteArray} {nl : Nat} {own : String} {ret : Option FieldType} {rm : Room} {pc pc' : Nat} {lv : List (Nat × Value)} {rest : List Value} {M : jM} {Q : State → Prop} {dflt lo hi : Int} {offs : Array Int} {len : Nat} {x c : Int32} {off : Int} {tgt : Nat} (hC : jOK Γ cc nl own ret rm) (hd : decode cc pc = .ok (.tableswitch dflt lo hi offs, len)) (hxc : x = c) (h1 : ¬ c.toInt < lo) (h2 : ¬ hi < c.toInt) (ho : offs[(c.toInt - lo).toNat]? = some off) (ht : (pc : Int) + off = (tgt : Int)) (k : jJ Γ G Rf tgt lv rest M Q) : jJ Γ G Rf pc lv (.int x :: rest) M Q := by
  subst hxc
  exact j_tabIn (pc' := 0) hC hd h1 h2 ho ht k
theorem jneI {x c : Int32} {k : Int} (hc : c.toInt = k) (h : ¬ x = c) : x.toInt ≠ k := fun q => h (Int32.toInt_inj.mp (q.trans hc.symm))
theorem jin3 {k : Int32} (h : jin k 3 = true) (h0 : ¬ k = 0) (h1 : ¬ k = 1) : k = 2 := by
  obtain ⟨j, hj, rfl⟩ := vp_in_of (jin_vp h) (by decide)
  rcases (show j = 0 ∨ j = 1 ∨ j = 2 by omega) with rfl | rfl | rfl
  · exact absurd rfl h0
  · exact absurd rfl h1
  · rfl
def jg {β : Type} (b : Bool) (a : Option β) : Option β := if b = true then a else none
theorem jg_s {β : Type} {b : Bool} {a : Option β} {r : β} (h : jg b a = some r) : b = true ∧ a = some r := by
  cases b with
  | false => cases h
  | true => exact ⟨rfl, h⟩
theorem jit_t {α : Type} {c : Prop} [Decidable c] {a b r : α} (hc : c) (h : (if c then a else b) = r) : a = r := by rw [if_pos hc] at h; exact h
theorem jit_f {α : Type} {c : Prop} [Decidable c] {a b r : α} (hc : ¬ c) (h : (if c then a else b) = r) : b = r := by rw [if_neg hc] at h; exact h
def jfu : Nat := 30000

theorem jinj1 {α : Type} {a b : α} (h : some a = some b) : b = a := (Option.some.inj h).symm
theorem jno {α : Type} {a : α} {P : Prop} (h : none = some a) : P := nomatch h
theorem j_mmax {Γ : jG} {G : List (Nat × Nat)} {Rf : Nat → Nat → Option Nat} {cc : ByteArray} {nl : Nat} {own : String} {ret : Option FieldType} {rm : Room} {pc pc' : Nat} {lv : List (Nat × Value)} {rest : List Value} {M : jM} {Q : State → Prop} {index : Nat} {x y : Int32} (hC : jOK Γ cc nl own ret rm) (hd : decode cc pc = .ok (.invokestatic index, 3)) (hp : pc + 3 = pc') (hw : Cond.methodLink own index Lib.Math.max.name ∈ jtb ∧ Cond.static Lib.Math.max.name ∈ jtb ∧ Cond.initialized "java/lang/Math" ∈ jtb ∧ Cond.code Lib.Math.max.name Lib.Math.max.code 2 (some .int) ∈ jtb) (hr : 1 ≤ rm.frames ∧ (rest.map fun v => v.category).sum + 13 ≤ rm.locals) (k : jJ Γ G Rf pc' lv (.int (if x < y then y else x) :: rest) M Q) : jJ Γ G Rf pc lv (.int y :: .int x :: rest) M Q := by
  subst hp
  obtain ⟨p, l, e, R, s, m, args, below, meth, c, nL, D, cy, ad, st, A, kc, ks⟩ := Γ
  obtain ⟨hx, hb, hml, hown, hts, hR, hlk, hrt, hK, hZ, hN, hA, hnl, hkc, hks⟩ := hC
  intro H locs ls hl hP hD hS
  obtain ⟨w1, w2, w3, w4⟩ := hw
  subst hR
  exact va_mmax hx hb (by rw [hml]; exact hl.1.symm) hown (hts _ w1) (hts _ w2) (hts _ w3) (hts _ w4) hr.1 hr.2 hkc hks hd (k H locs ls hl hP hD hS)
theorem j_mmin {Γ : jG} {G : List (Nat × Nat)} {Rf : Nat → Nat → Option Nat} {cc : ByteArray} {nl : Nat} {own : String} {ret : Option FieldType} {rm : Room} {pc pc' : Nat} {lv : List (Nat × Value)} {rest : List Value} {M : jM} {Q : State → Prop} {index : Nat} {x y : Int32} (hC : jOK Γ cc nl own ret rm) (hd : decode cc pc = .ok (.invokestatic index, 3)) (hp : pc + 3 = pc') (hw : Cond.methodLink own index Lib.Math.min.name ∈ jtb ∧ Cond.static Lib.Math.min.name ∈ jtb ∧ Cond.initialized "java/lang/Math" ∈ jtb ∧ Cond.code Lib.Math.min.name Lib.Math.min.code 2 (some .int) ∈ jtb) (hr : 1 ≤ rm.frames ∧ (rest.map fun v => v.category).sum + 13 ≤ rm.locals) (k : jJ Γ G Rf pc' lv (.int (if y < x then y else x) :: rest) M Q) : jJ Γ G Rf pc lv (.int y :: .int x :: rest) M Q := by
  subst hp
  obtain ⟨p, l, e, R, s, m, args, below, meth, c, nL, D, cy, ad, st, A, kc, ks⟩ := Γ
  obtain ⟨hx, hb, hml, hown, hts, hR, hlk, hrt, hK, hZ, hN, hA, hnl, hkc, hks⟩ := hC
  intro H locs ls hl hP hD hS
  obtain ⟨w1, w2, w3, w4⟩ := hw
  subst hR
  exact va_mmin hx hb (by rw [hml]; exact hl.1.symm) hown (hts _ w1) (hts _ w2) (hts _ w3) (hts _ w4) hr.1 hr.2 hkc hks hd (k H locs ls hl hP hD hS)

theorem jinj2 {α1 α2 : Type} {a1 b1 : α1} {a2 b2 : α2} (h : some (a1, a2) = some (b1, b2)) : b1 = a1 ∧ b2 = a2 := by
  cases h
  exact ⟨rfl, rfl⟩
theorem jinj3 {α1 α2 α3 : Type} {a1 b1 : α1} {a2 b2 : α2} {a3 b3 : α3} (h : some (a1, a2, a3) = some (b1, b2, b3)) : b1 = a1 ∧ b2 = a2 ∧ b3 = a3 := by
  cases h
  exact ⟨rfl, rfl, rfl⟩
theorem jinj4 {α1 α2 α3 α4 : Type} {a1 b1 : α1} {a2 b2 : α2} {a3 b3 : α3} {a4 b4 : α4} (h : some (a1, a2, a3, a4) = some (b1, b2, b3, b4)) : b1 = a1 ∧ b2 = a2 ∧ b3 = a3 ∧ b4 = a4 := by
  cases h
  exact ⟨rfl, rfl, rfl, rfl⟩
theorem jinj5 {α1 α2 α3 α4 α5 : Type} {a1 b1 : α1} {a2 b2 : α2} {a3 b3 : α3} {a4 b4 : α4} {a5 b5 : α5} (h : some (a1, a2, a3, a4, a5) = some (b1, b2, b3, b4, b5)) : b1 = a1 ∧ b2 = a2 ∧ b3 = a3 ∧ b4 = a4 ∧ b5 = a5 := by
  cases h
  exact ⟨rfl, rfl, rfl, rfl, rfl⟩
theorem jinj6 {α1 α2 α3 α4 α5 α6 : Type} {a1 b1 : α1} {a2 b2 : α2} {a3 b3 : α3} {a4 b4 : α4} {a5 b5 : α5} {a6 b6 : α6} (h : some (a1, a2, a3, a4, a5, a6) = some (b1, b2, b3, b4, b5, b6)) : b1 = a1 ∧ b2 = a2 ∧ b3 = a3 ∧ b4 = a4 ∧ b5 = a5 ∧ b6 = a6 := by
  cases h
  exact ⟨rfl, rfl, rfl, rfl, rfl, rfl⟩
theorem jinj7 {α1 α2 α3 α4 α5 α6 α7 : Type} {a1 b1 : α1} {a2 b2 : α2} {a3 b3 : α3} {a4 b4 : α4} {a5 b5 : α5} {a6 b6 : α6} {a7 b7 : α7} (h : some (a1, a2, a3, a4, a5, a6, a7) = some (b1, b2, b3, b4, b5, b6, b7)) : b1 = a1 ∧ b2 = a2 ∧ b3 = a3 ∧ b4 = a4 ∧ b5 = a5 ∧ b6 = a6 ∧ b7 = a7 := by
  cases h
  exact ⟨rfl, rfl, rfl, rfl, rfl, rfl, rfl⟩
def jb1 {α1 β : Type} (x : Option (α1)) (f : α1 → Option β) : Option β := match x with
  | none => none
  | some a1 => f a1
theorem jb1_s {α1 β : Type} {x : Option α1} {f : α1 → Option β} {r : β} (h : jb1 x f = some r) : ∃ a1, x = some a1 ∧ f a1 = some r := by
  cases x with
  | none => cases h
  | some p => exact ⟨p, rfl, h⟩
theorem jb1_e {α1 β : Type} {f : α1 → Option β} {a1 : α1} : jb1 (some a1) f = f a1 := rfl
def jr1 {ρ α1 : Type} (x : Option (ρ ⊕ (α1))) (f : α1 → Option ρ) : Option ρ := match x with
  | none => none
  | some (.inl r) => some r
  | some (.inr a1) => f a1
theorem jr1_s {ρ α1 : Type} {x : Option (ρ ⊕ (α1))} {f : α1 → Option ρ} {r : ρ} (h : jr1 x f = some r) : x = some (.inl r) ∨ ∃ a1, x = some (.inr a1) ∧ f a1 = some r := by
  cases x with
  | none => cases h
  | some p =>
    cases p with
    | inl q => cases h; exact Or.inl rfl
    | inr q =>
      exact Or.inr ⟨q, rfl, h⟩
def jt1 {ρ α1 β : Type} (x : Option (ρ ⊕ (α1))) (f : α1 → Option (ρ ⊕ β)) : Option (ρ ⊕ β) := match x with
  | none => none
  | some (.inl r) => some (.inl r)
  | some (.inr a1) => f a1
theorem jt1_s {ρ α1 β : Type} {x : Option (ρ ⊕ (α1))} {f : α1 → Option (ρ ⊕ β)} {r : ρ ⊕ β} (h : jt1 x f = some r) : (∃ q, x = some (.inl q) ∧ r = .inl q) ∨ ∃ a1, x = some (.inr a1) ∧ f a1 = some r := by
  cases x with
  | none => cases h
  | some p =>
    cases p with
    | inl q => cases h; exact Or.inl ⟨q, rfl, rfl⟩
    | inr q =>
      exact Or.inr ⟨q, rfl, h⟩
def jb2 {α1 α2 β : Type} (x : Option (α1 × α2)) (f : α1 → α2 → Option β) : Option β := match x with
  | none => none
  | some (a1, a2) => f a1 a2
theorem jb2_s {α1 α2 β : Type} {x : Option (α1 × α2)} {f : α1 → α2 → Option β} {r : β} (h : jb2 x f = some r) : ∃ a1 a2, x = some (a1, a2) ∧ f a1 a2 = some r := by
  cases x with
  | none => cases h
  | some p =>
    obtain ⟨a1, a2⟩ := p
    exact ⟨a1, a2, rfl, h⟩
theorem jb2_e {α1 α2 β : Type} {f : α1 → α2 → Option β} {a1 : α1} {a2 : α2} : jb2 (some (a1, a2)) f = f a1 a2 := rfl
def jr2 {ρ α1 α2 : Type} (x : Option (ρ ⊕ (α1 × α2))) (f : α1 → α2 → Option ρ) : Option ρ := match x with
  | none => none
  | some (.inl r) => some r
  | some (.inr (a1, a2)) => f a1 a2
theorem jr2_s {ρ α1 α2 : Type} {x : Option (ρ ⊕ (α1 × α2))} {f : α1 → α2 → Option ρ} {r : ρ} (h : jr2 x f = some r) : x = some (.inl r) ∨ ∃ a1 a2, x = some (.inr (a1, a2)) ∧ f a1 a2 = some r := by
  cases x with
  | none => cases h
  | some p =>
    cases p with
    | inl q => cases h; exact Or.inl rfl
    | inr q =>
      obtain ⟨a1, a2⟩ := q
      exact Or.inr ⟨a1, a2, rfl, h⟩
def jt2 {ρ α1 α2 β : Type} (x : Option (ρ ⊕ (α1 × α2))) (f : α1 → α2 → Option (ρ ⊕ β)) : Option (ρ ⊕ β) := match x with
  | none => none
  | some (.inl r) => some (.inl r)
  | some (.inr (a1, a2)) => f a1 a2
theorem jt2_s {ρ α1 α2 β : Type} {x : Option (ρ ⊕ (α1 × α2))} {f : α1 → α2 → Option (ρ ⊕ β)} {r : ρ ⊕ β} (h : jt2 x f = some r) : (∃ q, x = some (.inl q) ∧ r = .inl q) ∨ ∃ a1 a2, x = some (.inr (a1, a2)) ∧ f a1 a2 = some r := by
  cases x with
  | none => cases h
  | some p =>
    cases p with
    | inl q => cases h; exact Or.inl ⟨q, rfl, rfl⟩
    | inr q =>
      obtain ⟨a1, a2⟩ := q
      exact Or.inr ⟨a1, a2, rfl, h⟩
def jb3 {α1 α2 α3 β : Type} (x : Option (α1 × α2 × α3)) (f : α1 → α2 → α3 → Option β) : Option β := match x with
  | none => none
  | some (a1, a2, a3) => f a1 a2 a3
theorem jb3_s {α1 α2 α3 β : Type} {x : Option (α1 × α2 × α3)} {f : α1 → α2 → α3 → Option β} {r : β} (h : jb3 x f = some r) : ∃ a1 a2 a3, x = some (a1, a2, a3) ∧ f a1 a2 a3 = some r := by
  cases x with
  | none => cases h
  | some p =>
    obtain ⟨a1, a2, a3⟩ := p
    exact ⟨a1, a2, a3, rfl, h⟩
theorem jb3_e {α1 α2 α3 β : Type} {f : α1 → α2 → α3 → Option β} {a1 : α1} {a2 : α2} {a3 : α3} : jb3 (some (a1, a2, a3)) f = f a1 a2 a3 := rfl
def jr3 {ρ α1 α2 α3 : Type} (x : Option (ρ ⊕ (α1 × α2 × α3))) (f : α1 → α2 → α3 → Option ρ) : Option ρ := match x with
  | none => none
  | some (.inl r) => some r
  | some (.inr (a1, a2, a3)) => f a1 a2 a3
theorem jr3_s {ρ α1 α2 α3 : Type} {x : Option (ρ ⊕ (α1 × α2 × α3))} {f : α1 → α2 → α3 → Option ρ} {r : ρ} (h : jr3 x f = some r) : x = some (.inl r) ∨ ∃ a1 a2 a3, x = some (.inr (a1, a2, a3)) ∧ f a1 a2 a3 = some r := by
  cases x with
  | none => cases h
  | some p =>
    cases p with
    | inl q => cases h; exact Or.inl rfl
    | inr q =>
      obtain ⟨a1, a2, a3⟩ := q
      exact Or.inr ⟨a1, a2, a3, rfl, h⟩
def jt3 {ρ α1 α2 α3 β : Type} (x : Option (ρ ⊕ (α1 × α2 × α3))) (f : α1 → α2 → α3 → Option (ρ ⊕ β)) : Option (ρ ⊕ β) := match x with
  | none => none
  | some (.inl r) => some (.inl r)
  | some (.inr (a1, a2, a3)) => f a1 a2 a3
theorem jt3_s {ρ α1 α2 α3 β : Type} {x : Option (ρ ⊕ (α1 × α2 × α3))} {f : α1 → α2 → α3 → Option (ρ ⊕ β)} {r : ρ ⊕ β} (h : jt3 x f = some r) : (∃ q, x = some (.inl q) ∧ r = .inl q) ∨ ∃ a1 a2 a3, x = some (.inr (a1, a2, a3)) ∧ f a1 a2 a3 = some r := by
  cases x with
  | none => cases h
  | some p =>
    cases p with
    | inl q => cases h; exact Or.inl ⟨q, rfl, rfl⟩
    | inr q =>
      obtain ⟨a1, a2, a3⟩ := q
      exact Or.inr ⟨a1, a2, a3, rfl, h⟩
def jb4 {α1 α2 α3 α4 β : Type} (x : Option (α1 × α2 × α3 × α4)) (f : α1 → α2 → α3 → α4 → Option β) : Option β := match x with
  | none => none
  | some (a1, a2, a3, a4) => f a1 a2 a3 a4
theorem jb4_s {α1 α2 α3 α4 β : Type} {x : Option (α1 × α2 × α3 × α4)} {f : α1 → α2 → α3 → α4 → Option β} {r : β} (h : jb4 x f = some r) : ∃ a1 a2 a3 a4, x = some (a1, a2, a3, a4) ∧ f a1 a2 a3 a4 = some r := by
  cases x with
  | none => cases h
  | some p =>
    obtain ⟨a1, a2, a3, a4⟩ := p
    exact ⟨a1, a2, a3, a4, rfl, h⟩
theorem jb4_e {α1 α2 α3 α4 β : Type} {f : α1 → α2 → α3 → α4 → Option β} {a1 : α1} {a2 : α2} {a3 : α3} {a4 : α4} : jb4 (some (a1, a2, a3, a4)) f = f a1 a2 a3 a4 := rfl
def jr4 {ρ α1 α2 α3 α4 : Type} (x : Option (ρ ⊕ (α1 × α2 × α3 × α4))) (f : α1 → α2 → α3 → α4 → Option ρ) : Option ρ := match x with
  | none => none
  | some (.inl r) => some r
  | some (.inr (a1, a2, a3, a4)) => f a1 a2 a3 a4
theorem jr4_s {ρ α1 α2 α3 α4 : Type} {x : Option (ρ ⊕ (α1 × α2 × α3 × α4))} {f : α1 → α2 → α3 → α4 → Option ρ} {r : ρ} (h : jr4 x f = some r) : x = some (.inl r) ∨ ∃ a1 a2 a3 a4, x = some (.inr (a1, a2, a3, a4)) ∧ f a1 a2 a3 a4 = some r := by
  cases x with
  | none => cases h
  | some p =>
    cases p with
    | inl q => cases h; exact Or.inl rfl
    | inr q =>
      obtain ⟨a1, a2, a3, a4⟩ := q
      exact Or.inr ⟨a1, a2, a3, a4, rfl, h⟩
def jt4 {ρ α1 α2 α3 α4 β : Type} (x : Option (ρ ⊕ (α1 × α2 × α3 × α4))) (f : α1 → α2 → α3 → α4 → Option (ρ ⊕ β)) : Option (ρ ⊕ β) := match x with
  | none => none
  | some (.inl r) => some (.inl r)
  | some (.inr (a1, a2, a3, a4)) => f a1 a2 a3 a4
theorem jt4_s {ρ α1 α2 α3 α4 β : Type} {x : Option (ρ ⊕ (α1 × α2 × α3 × α4))} {f : α1 → α2 → α3 → α4 → Option (ρ ⊕ β)} {r : ρ ⊕ β} (h : jt4 x f = some r) : (∃ q, x = some (.inl q) ∧ r = .inl q) ∨ ∃ a1 a2 a3 a4, x = some (.inr (a1, a2, a3, a4)) ∧ f a1 a2 a3 a4 = some r := by
  cases x with
  | none => cases h
  | some p =>
    cases p with
    | inl q => cases h; exact Or.inl ⟨q, rfl, rfl⟩
    | inr q =>
      obtain ⟨a1, a2, a3, a4⟩ := q
      exact Or.inr ⟨a1, a2, a3, a4, rfl, h⟩
def jb5 {α1 α2 α3 α4 α5 β : Type} (x : Option (α1 × α2 × α3 × α4 × α5)) (f : α1 → α2 → α3 → α4 → α5 → Option β) : Option β := match x with
  | none => none
  | some (a1, a2, a3, a4, a5) => f a1 a2 a3 a4 a5
theorem jb5_s {α1 α2 α3 α4 α5 β : Type} {x : Option (α1 × α2 × α3 × α4 × α5)} {f : α1 → α2 → α3 → α4 → α5 → Option β} {r : β} (h : jb5 x f = some r) : ∃ a1 a2 a3 a4 a5, x = some (a1, a2, a3, a4, a5) ∧ f a1 a2 a3 a4 a5 = some r := by
  cases x with
  | none => cases h
  | some p =>
    obtain ⟨a1, a2, a3, a4, a5⟩ := p
    exact ⟨a1, a2, a3, a4, a5, rfl, h⟩
theorem jb5_e {α1 α2 α3 α4 α5 β : Type} {f : α1 → α2 → α3 → α4 → α5 → Option β} {a1 : α1} {a2 : α2} {a3 : α3} {a4 : α4} {a5 : α5} : jb5 (some (a1, a2, a3, a4, a5)) f = f a1 a2 a3 a4 a5 := rfl
def jr5 {ρ α1 α2 α3 α4 α5 : Type} (x : Option (ρ ⊕ (α1 × α2 × α3 × α4 × α5))) (f : α1 → α2 → α3 → α4 → α5 → Option ρ) : Option ρ := match x with
  | none => none
  | some (.inl r) => some r
  | some (.inr (a1, a2, a3, a4, a5)) => f a1 a2 a3 a4 a5
theorem jr5_s {ρ α1 α2 α3 α4 α5 : Type} {x : Option (ρ ⊕ (α1 × α2 × α3 × α4 × α5))} {f : α1 → α2 → α3 → α4 → α5 → Option ρ} {r : ρ} (h : jr5 x f = some r) : x = some (.inl r) ∨ ∃ a1 a2 a3 a4 a5, x = some (.inr (a1, a2, a3, a4, a5)) ∧ f a1 a2 a3 a4 a5 = some r := by
  cases x with
  | none => cases h
  | some p =>
    cases p with
    | inl q => cases h; exact Or.inl rfl
    | inr q =>
      obtain ⟨a1, a2, a3, a4, a5⟩ := q
      exact Or.inr ⟨a1, a2, a3, a4, a5, rfl, h⟩
def jt5 {ρ α1 α2 α3 α4 α5 β : Type} (x : Option (ρ ⊕ (α1 × α2 × α3 × α4 × α5))) (f : α1 → α2 → α3 → α4 → α5 → Option (ρ ⊕ β)) : Option (ρ ⊕ β) := match x with
  | none => none
  | some (.inl r) => some (.inl r)
  | some (.inr (a1, a2, a3, a4, a5)) => f a1 a2 a3 a4 a5
theorem jt5_s {ρ α1 α2 α3 α4 α5 β : Type} {x : Option (ρ ⊕ (α1 × α2 × α3 × α4 × α5))} {f : α1 → α2 → α3 → α4 → α5 → Option (ρ ⊕ β)} {r : ρ ⊕ β} (h : jt5 x f = some r) : (∃ q, x = some (.inl q) ∧ r = .inl q) ∨ ∃ a1 a2 a3 a4 a5, x = some (.inr (a1, a2, a3, a4, a5)) ∧ f a1 a2 a3 a4 a5 = some r := by
  cases x with
  | none => cases h
  | some p =>
    cases p with
    | inl q => cases h; exact Or.inl ⟨q, rfl, rfl⟩
    | inr q =>
      obtain ⟨a1, a2, a3, a4, a5⟩ := q
      exact Or.inr ⟨a1, a2, a3, a4, a5, rfl, h⟩
def jb6 {α1 α2 α3 α4 α5 α6 β : Type} (x : Option (α1 × α2 × α3 × α4 × α5 × α6)) (f : α1 → α2 → α3 → α4 → α5 → α6 → Option β) : Option β := match x with
  | none => none
  | some (a1, a2, a3, a4, a5, a6) => f a1 a2 a3 a4 a5 a6
theorem jb6_s {α1 α2 α3 α4 α5 α6 β : Type} {x : Option (α1 × α2 × α3 × α4 × α5 × α6)} {f : α1 → α2 → α3 → α4 → α5 → α6 → Option β} {r : β} (h : jb6 x f = some r) : ∃ a1 a2 a3 a4 a5 a6, x = some (a1, a2, a3, a4, a5, a6) ∧ f a1 a2 a3 a4 a5 a6 = some r := by
  cases x with
  | none => cases h
  | some p =>
    obtain ⟨a1, a2, a3, a4, a5, a6⟩ := p
    exact ⟨a1, a2, a3, a4, a5, a6, rfl, h⟩
theorem jb6_e {α1 α2 α3 α4 α5 α6 β : Type} {f : α1 → α2 → α3 → α4 → α5 → α6 → Option β} {a1 : α1} {a2 : α2} {a3 : α3} {a4 : α4} {a5 : α5} {a6 : α6} : jb6 (some (a1, a2, a3, a4, a5, a6)) f = f a1 a2 a3 a4 a5 a6 := rfl
def jr6 {ρ α1 α2 α3 α4 α5 α6 : Type} (x : Option (ρ ⊕ (α1 × α2 × α3 × α4 × α5 × α6))) (f : α1 → α2 → α3 → α4 → α5 → α6 → Option ρ) : Option ρ := match x with
  | none => none
  | some (.inl r) => some r
  | some (.inr (a1, a2, a3, a4, a5, a6)) => f a1 a2 a3 a4 a5 a6
theorem jr6_s {ρ α1 α2 α3 α4 α5 α6 : Type} {x : Option (ρ ⊕ (α1 × α2 × α3 × α4 × α5 × α6))} {f : α1 → α2 → α3 → α4 → α5 → α6 → Option ρ} {r : ρ} (h : jr6 x f = some r) : x = some (.inl r) ∨ ∃ a1 a2 a3 a4 a5 a6, x = some (.inr (a1, a2, a3, a4, a5, a6)) ∧ f a1 a2 a3 a4 a5 a6 = some r := by
  cases x with
  | none => cases h
  | some p =>
    cases p with
    | inl q => cases h; exact Or.inl rfl
    | inr q =>
      obtain ⟨a1, a2, a3, a4, a5, a6⟩ := q
      exact Or.inr ⟨a1, a2, a3, a4, a5, a6, rfl, h⟩
def jt6 {ρ α1 α2 α3 α4 α5 α6 β : Type} (x : Option (ρ ⊕ (α1 × α2 × α3 × α4 × α5 × α6))) (f : α1 → α2 → α3 → α4 → α5 → α6 → Option (ρ ⊕ β)) : Option (ρ ⊕ β) := match x with
  | none => none
  | some (.inl r) => some (.inl r)
  | some (.inr (a1, a2, a3, a4, a5, a6)) => f a1 a2 a3 a4 a5 a6
theorem jt6_s {ρ α1 α2 α3 α4 α5 α6 β : Type} {x : Option (ρ ⊕ (α1 × α2 × α3 × α4 × α5 × α6))} {f : α1 → α2 → α3 → α4 → α5 → α6 → Option (ρ ⊕ β)} {r : ρ ⊕ β} (h : jt6 x f = some r) : (∃ q, x = some (.inl q) ∧ r = .inl q) ∨ ∃ a1 a2 a3 a4 a5 a6, x = some (.inr (a1, a2, a3, a4, a5, a6)) ∧ f a1 a2 a3 a4 a5 a6 = some r := by
  cases x with
  | none => cases h
  | some p =>
    cases p with
    | inl q => cases h; exact Or.inl ⟨q, rfl, rfl⟩
    | inr q =>
      obtain ⟨a1, a2, a3, a4, a5, a6⟩ := q
      exact Or.inr ⟨a1, a2, a3, a4, a5, a6, rfl, h⟩
def jb7 {α1 α2 α3 α4 α5 α6 α7 β : Type} (x : Option (α1 × α2 × α3 × α4 × α5 × α6 × α7)) (f : α1 → α2 → α3 → α4 → α5 → α6 → α7 → Option β) : Option β := match x with
  | none => none
  | some (a1, a2, a3, a4, a5, a6, a7) => f a1 a2 a3 a4 a5 a6 a7
theorem jb7_s {α1 α2 α3 α4 α5 α6 α7 β : Type} {x : Option (α1 × α2 × α3 × α4 × α5 × α6 × α7)} {f : α1 → α2 → α3 → α4 → α5 → α6 → α7 → Option β} {r : β} (h : jb7 x f = some r) : ∃ a1 a2 a3 a4 a5 a6 a7, x = some (a1, a2, a3, a4, a5, a6, a7) ∧ f a1 a2 a3 a4 a5 a6 a7 = some r := by
  cases x with
  | none => cases h
  | some p =>
    obtain ⟨a1, a2, a3, a4, a5, a6, a7⟩ := p
    exact ⟨a1, a2, a3, a4, a5, a6, a7, rfl, h⟩
theorem jb7_e {α1 α2 α3 α4 α5 α6 α7 β : Type} {f : α1 → α2 → α3 → α4 → α5 → α6 → α7 → Option β} {a1 : α1} {a2 : α2} {a3 : α3} {a4 : α4} {a5 : α5} {a6 : α6} {a7 : α7} : jb7 (some (a1, a2, a3, a4, a5, a6, a7)) f = f a1 a2 a3 a4 a5 a6 a7 := rfl
def jr7 {ρ α1 α2 α3 α4 α5 α6 α7 : Type} (x : Option (ρ ⊕ (α1 × α2 × α3 × α4 × α5 × α6 × α7))) (f : α1 → α2 → α3 → α4 → α5 → α6 → α7 → Option ρ) : Option ρ := match x with
  | none => none
  | some (.inl r) => some r
  | some (.inr (a1, a2, a3, a4, a5, a6, a7)) => f a1 a2 a3 a4 a5 a6 a7
theorem jr7_s {ρ α1 α2 α3 α4 α5 α6 α7 : Type} {x : Option (ρ ⊕ (α1 × α2 × α3 × α4 × α5 × α6 × α7))} {f : α1 → α2 → α3 → α4 → α5 → α6 → α7 → Option ρ} {r : ρ} (h : jr7 x f = some r) : x = some (.inl r) ∨ ∃ a1 a2 a3 a4 a5 a6 a7, x = some (.inr (a1, a2, a3, a4, a5, a6, a7)) ∧ f a1 a2 a3 a4 a5 a6 a7 = some r := by
  cases x with
  | none => cases h
  | some p =>
    cases p with
    | inl q => cases h; exact Or.inl rfl
    | inr q =>
      obtain ⟨a1, a2, a3, a4, a5, a6, a7⟩ := q
      exact Or.inr ⟨a1, a2, a3, a4, a5, a6, a7, rfl, h⟩
def jt7 {ρ α1 α2 α3 α4 α5 α6 α7 β : Type} (x : Option (ρ ⊕ (α1 × α2 × α3 × α4 × α5 × α6 × α7))) (f : α1 → α2 → α3 → α4 → α5 → α6 → α7 → Option (ρ ⊕ β)) : Option (ρ ⊕ β) := match x with
  | none => none
  | some (.inl r) => some (.inl r)
  | some (.inr (a1, a2, a3, a4, a5, a6, a7)) => f a1 a2 a3 a4 a5 a6 a7
theorem jt7_s {ρ α1 α2 α3 α4 α5 α6 α7 β : Type} {x : Option (ρ ⊕ (α1 × α2 × α3 × α4 × α5 × α6 × α7))} {f : α1 → α2 → α3 → α4 → α5 → α6 → α7 → Option (ρ ⊕ β)} {r : ρ ⊕ β} (h : jt7 x f = some r) : (∃ q, x = some (.inl q) ∧ r = .inl q) ∨ ∃ a1 a2 a3 a4 a5 a6 a7, x = some (.inr (a1, a2, a3, a4, a5, a6, a7)) ∧ f a1 a2 a3 a4 a5 a6 a7 = some r := by
  cases x with
  | none => cases h
  | some p =>
    cases p with
    | inl q => cases h; exact Or.inl ⟨q, rfl, rfl⟩
    | inr q =>
      obtain ⟨a1, a2, a3, a4, a5, a6, a7⟩ := q
      exact Or.inr ⟨a1, a2, a3, a4, a5, a6, a7, rfl, h⟩
