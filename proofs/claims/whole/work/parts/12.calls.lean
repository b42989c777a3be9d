abbrev jE : Type := va_G × (Nat → ClassId) × (Nat → Nat) × (Nat → Nat)
def jEo (Γ : jG) : jE := match Γ with
  | (p, l, e, R, s, m, args, below, meth, c, nL, D, cy, ad, st, A, kc, ks) => (D, cy, ad, st)
def jlo (Γ : jG) : Launch := match Γ with
  | (p, l, e, R, s, m, args, below, meth, c, nL, D, cy, ad, st, A, kc, ks) => l
def jPre (E : jE) (Rf : Nat → Nat → Option Nat) (G : List (Nat × Nat)) (M : jM) (sz : Nat) (U : State) : Prop := U.heap.size = sz ∧ va_P E.1 vwCl (jws E.2.1 E.2.2.1 Rf M G) U.heap ∧ va_K E.1 vwCl (jtys E.2.1) U ∧ va_D (fun _ => True) (jws E.2.1 E.2.2.1 Rf M G) ∧ jZ E.2.2.2 (va_A (jws E.2.1 E.2.2.1 Rf M G) sz) U U.heap ∧ jN U
def jPost (E : jE) (Rf : Nat → Nat → Option Nat) (G : List (Nat × Nat)) (A : Nat → Prop) (M : jM) (t : State) : Prop := va_P E.1 vwCl (jws E.2.1 E.2.2.1 Rf M G) t.heap ∧ va_K E.1 vwCl (jtys E.2.1) t ∧ va_D A (jws E.2.1 E.2.2.1 Rf M G)
theorem jPre_blind {E : jE} {Rf : Nat → Nat → Option Nat} {G : List (Nat × Nat)} {M : jM} {sz : Nat} {av : List Value} : FrameBlind (va_Pc av (jPre E Rf G M sz)) := fun a U g mk q => by
  obtain ⟨q0, q1, qP, qK, qD, qZ, qN⟩ := q
  exact ⟨q0, q1, qP, va_K.moved (u := U) (U := U.calling g mk a) (Vm.Alike.refl U.vm) qK, qD, jZ_moved (u := U) (U := U.calling g mk a) (Vm.Alike.refl U.vm) qZ, jN_same (u := U) (U := U.calling g mk a) rfl qN⟩
theorem jgood {y : MethodName} {cc : ByteArray} {nl : Nat} {ret : Option FieldType} (h : Cond.code y cc nl ret ∈ jtb) : GoodIn jtb (.code y cc nl ret :: jtb) := fun w hw => by
  rcases List.mem_cons.mp hw with rfl | hw
  · exact ⟨h, jtb_good h⟩
  · exact ⟨hw, jtb_good hw⟩

def jCi (l : Launch) (y : MethodName) (cc : ByteArray) (nl : Nat) (ret : Option FieldType) (fr lc : Nat) (E : jE) (Rf : Nat → Nat → Option Nat) (G : List (Nat × Nat)) (av : (Nat → Nat) → (Nat → Nat) → List Value) (M : jM) (r : Int32) (M' : jM) : Prop := ∀ sz : Nat, Met l y (.code y cc nl ret :: jtb) { frames := fr, cells := 0, slots := 0, locals := lc } (va_Pc (av E.2.2.1 E.2.2.2) (jPre E Rf G M sz)) (va_Qi (fun (r' : Int32) (_ : Unit) => r' = r) (fun (_ : Unit) t => jPost E Rf G (va_A (jws E.2.1 E.2.2.1 Rf M G) sz) M' t) (va_A (jws E.2.1 E.2.2.1 Rf M G) sz)) 0 0 (va_A (jws E.2.1 E.2.2.1 Rf M G) sz)
def jQi (Γ : jG) (Rf : Nat → Nat → Option Nat) (G : List (Nat × Nat)) (r : Int32) (M' : jM) : State → Prop := match Γ with
  | (p, l, e, R, s, m, args, below, meth, c, nL, D, cy, ad, st, A, kc, ks) => MQ below (va_Qi (fun (r' : Int32) (_ : Unit) => r' = r) (fun (_ : Unit) t => jPost (D, cy, ad, st) Rf G A M' t) A) args s kc ks A
theorem jCi_of {l : Launch} {y : MethodName} {cc : ByteArray} {nl : Nat} {own : String} {ret : Option FieldType} {fr lc : Nat} {E : jE} {Rf : Nat → Nat → Option Nat} {G : List (Nat × Nat)} {av : (Nat → Nat) → (Nat → Nat) → List Value} {M M' : jM} {r : Int32} (hy : plainName y.cls = true) (ho : y.cls = own) (hav : ∀ a b, (lg_sl (av a b)).length ≤ nl)
    (body : ∀ Γ : jG, jOK Γ cc nl own ret { frames := fr, cells := 0, slots := 0, locals := lc } → jJ Γ G Rf 0 (lv_args 0 (av (jad Γ) (jst Γ))) [] M (jQi Γ Rf G r M')) : jCi l y cc nl ret fr lc E Rf G av M r M' := by
  intro sz
  obtain ⟨D, cy, ad, st⟩ := E
  refine Met.ofW (cc := cc) (maxL := nl) (ret := ret) hy rfl ?_
  intro p e s m args below meth c s₁ B hml hv
  obtain ⟨rfl, hsz, hP, hK, hD, hZ, hN⟩ := hv
  subst hsz
  have hts := atoms_spec (ws := .code y cc nl ret :: jtb) B.pre
  have hown : s.vm.findClass own = some m.cls := by rw [← ho]; exact findClass_of_methodNamed B.named
  have hb := body (p, l, e, { frames := fr, cells := 0, slots := 0, locals := lc }, s, m, (av ad st).toArray, below, meth, c, nl, D, cy, ad, st, va_A (jws cy ad Rf M G) s.heap.size, 0, 0) ⟨B.exec, B.bytes, hml, hown, fun w h => hts w (List.mem_cons_of_mem _ h), rfl, B.notSynchronized, B.returns, hK, hZ, hN, fun q h => Or.inr h, rfl, Nat.le_refl _, Nat.le_refl _⟩
  show W _ _ _ _ _ _ _ _ _ _ _ _ _ _ _ (entryFrame m (av ad st).toArray nl)
  rw [lg_entry_eq]
  exact hb s.heap [] _ (lv_entry (av ad st) (hav ad st)) hP hD.self va_S.rf

def jCl (l : Launch) (y : MethodName) (cc : ByteArray) (nl : Nat) (ret : Option FieldType) (fr lc : Nat) (E : jE) (Rf : Nat → Nat → Option Nat) (G : List (Nat × Nat)) (av : (Nat → Nat) → (Nat → Nat) → List Value) (M : jM) (r : Int64) (M' : jM) : Prop := ∀ sz : Nat, Met l y (.code y cc nl ret :: jtb) { frames := fr, cells := 0, slots := 0, locals := lc } (va_Pc (av E.2.2.1 E.2.2.2) (jPre E Rf G M sz)) (va_Ql (fun (r' : Int64) (_ : Unit) => r' = r) (fun (_ : Unit) t => jPost E Rf G (va_A (jws E.2.1 E.2.2.1 Rf M G) sz) M' t) (va_A (jws E.2.1 E.2.2.1 Rf M G) sz)) 0 0 (va_A (jws E.2.1 E.2.2.1 Rf M G) sz)
def jQl (Γ : jG) (Rf : Nat → Nat → Option Nat) (G : List (Nat × Nat)) (r : Int64) (M' : jM) : State → Prop := match Γ with
  | (p, l, e, R, s, m, args, below, meth, c, nL, D, cy, ad, st, A, kc, ks) => MQ below (va_Ql (fun (r' : Int64) (_ : Unit) => r' = r) (fun (_ : Unit) t => jPost (D, cy, ad, st) Rf G A M' t) A) args s kc ks A
theorem jCl_of {l : Launch} {y : MethodName} {cc : ByteArray} {nl : Nat} {own : String} {ret : Option FieldType} {fr lc : Nat} {E : jE} {Rf : Nat → Nat → Option Nat} {G : List (Nat × Nat)} {av : (Nat → Nat) → (Nat → Nat) → List Value} {M M' : jM} {r : Int64} (hy : plainName y.cls = true) (ho : y.cls = own) (hav : ∀ a b, (lg_sl (av a b)).length ≤ nl)
    (body : ∀ Γ : jG, jOK Γ cc nl own ret { frames := fr, cells := 0, slots := 0, locals := lc } → jJ Γ G Rf 0 (lv_args 0 (av (jad Γ) (jst Γ))) [] M (jQl Γ Rf G r M')) : jCl l y cc nl ret fr lc E Rf G av M r M' := by
  intro sz
  obtain ⟨D, cy, ad, st⟩ := E
  refine Met.ofW (cc := cc) (maxL := nl) (ret := ret) hy rfl ?_
  intro p e s m args below meth c s₁ B hml hv
  obtain ⟨rfl, hsz, hP, hK, hD, hZ, hN⟩ := hv
  subst hsz
  have hts := atoms_spec (ws := .code y cc nl ret :: jtb) B.pre
  have hown : s.vm.findClass own = some m.cls := by rw [← ho]; exact findClass_of_methodNamed B.named
  have hb := body (p, l, e, { frames := fr, cells := 0, slots := 0, locals := lc }, s, m, (av ad st).toArray, below, meth, c, nl, D, cy, ad, st, va_A (jws cy ad Rf M G) s.heap.size, 0, 0) ⟨B.exec, B.bytes, hml, hown, fun w h => hts w (List.mem_cons_of_mem _ h), rfl, B.notSynchronized, B.returns, hK, hZ, hN, fun q h => Or.inr h, rfl, Nat.le_refl _, Nat.le_refl _⟩
  show W _ _ _ _ _ _ _ _ _ _ _ _ _ _ _ (entryFrame m (av ad st).toArray nl)
  rw [lg_entry_eq]
  exact hb s.heap [] _ (lv_entry (av ad st) (hav ad st)) hP hD.self va_S.rf

def jCv (l : Launch) (y : MethodName) (cc : ByteArray) (nl : Nat) (ret : Option FieldType) (fr lc : Nat) (E : jE) (Rf : Nat → Nat → Option Nat) (G : List (Nat × Nat)) (av : (Nat → Nat) → (Nat → Nat) → List Value) (M : jM)  (M' : jM) : Prop := ∀ sz : Nat, Met l y (.code y cc nl ret :: jtb) { frames := fr, cells := 0, slots := 0, locals := lc } (va_Pc (av E.2.2.1 E.2.2.2) (jPre E Rf G M sz)) (va_Qv (fun (_ : Unit) => True) (fun (_ : Unit) t => jPost E Rf G (va_A (jws E.2.1 E.2.2.1 Rf M G) sz) M' t) (va_A (jws E.2.1 E.2.2.1 Rf M G) sz)) 0 0 (va_A (jws E.2.1 E.2.2.1 Rf M G) sz)
def jQv (Γ : jG) (Rf : Nat → Nat → Option Nat) (G : List (Nat × Nat))  (M' : jM) : State → Prop := match Γ with
  | (p, l, e, R, s, m, args, below, meth, c, nL, D, cy, ad, st, A, kc, ks) => MQ below (va_Qv (fun (_ : Unit) => True) (fun (_ : Unit) t => jPost (D, cy, ad, st) Rf G A M' t) A) args s kc ks A
theorem jCv_of {l : Launch} {y : MethodName} {cc : ByteArray} {nl : Nat} {own : String} {ret : Option FieldType} {fr lc : Nat} {E : jE} {Rf : Nat → Nat → Option Nat} {G : List (Nat × Nat)} {av : (Nat → Nat) → (Nat → Nat) → List Value} {M M' : jM}  (hy : plainName y.cls = true) (ho : y.cls = own) (hav : ∀ a b, (lg_sl (av a b)).length ≤ nl)
    (body : ∀ Γ : jG, jOK Γ cc nl own ret { frames := fr, cells := 0, slots := 0, locals := lc } → jJ Γ G Rf 0 (lv_args 0 (av (jad Γ) (jst Γ))) [] M (jQv Γ Rf G  M')) : jCv l y cc nl ret fr lc E Rf G av M  M' := by
  intro sz
  obtain ⟨D, cy, ad, st⟩ := E
  refine Met.ofW (cc := cc) (maxL := nl) (ret := ret) hy rfl ?_
  intro p e s m args below meth c s₁ B hml hv
  obtain ⟨rfl, hsz, hP, hK, hD, hZ, hN⟩ := hv
  subst hsz
  have hts := atoms_spec (ws := .code y cc nl ret :: jtb) B.pre
  have hown : s.vm.findClass own = some m.cls := by rw [← ho]; exact findClass_of_methodNamed B.named
  have hb := body (p, l, e, { frames := fr, cells := 0, slots := 0, locals := lc }, s, m, (av ad st).toArray, below, meth, c, nl, D, cy, ad, st, va_A (jws cy ad Rf M G) s.heap.size, 0, 0) ⟨B.exec, B.bytes, hml, hown, fun w h => hts w (List.mem_cons_of_mem _ h), rfl, B.notSynchronized, B.returns, hK, hZ, hN, fun q h => Or.inr h, rfl, Nat.le_refl _, Nat.le_refl _⟩
  show W _ _ _ _ _ _ _ _ _ _ _ _ _ _ _ (entryFrame m (av ad st).toArray nl)
  rw [lg_entry_eq]
  exact hb s.heap [] _ (lv_entry (av ad st) (hav ad st)) hP hD.self va_S.rf

theorem j_iret {Γ : jG} {G : List (Nat × Nat)} {Rf : Nat → Nat → Option Nat} {cc : ByteArray} {nl : Nat} {own : String} {rm : Room} {pc : Nat} {lv : List (Nat × Value)} {M : jM} {r : Int32} (hC : jOK Γ cc nl own (some .int) rm) (hd : decode cc pc = .ok (.ireturn, 1))  : jJ Γ G Rf pc lv ([.int r]) M (jQi Γ Rf G r M) := by
  obtain ⟨p, l, e, R, s, m, args, below, meth, c, nL, D, cy, ad, st, A, kc, ks⟩ := Γ
  obtain ⟨hx, hb, hml, hown, hts, hR, hlk, hrt, hK, hZ, hN, hA, hnl, hkc, hks⟩ := hC
  intro H locs ls hl hP hD hS
  exact W.iret hx hb hrt (fun t ht hW => ⟨⟨r, (), rfl, rfl, by rw [ht]; exact hP, va_K.moved hW.alike hK, hD⟩, hS.F ht⟩) hS.2.2 hd hlk

theorem j_zret {Γ : jG} {G : List (Nat × Nat)} {Rf : Nat → Nat → Option Nat} {cc : ByteArray} {nl : Nat} {own : String} {rm : Room} {pc : Nat} {lv : List (Nat × Value)} {M : jM} {r : Int32} (hC : jOK Γ cc nl own (some .boolean) rm) (hd : decode cc pc = .ok (.ireturn, 1)) (hn : r &&& 1 = r) : jJ Γ G Rf pc lv ([.int r]) M (jQi Γ Rf G r M) := by
  obtain ⟨p, l, e, R, s, m, args, below, meth, c, nL, D, cy, ad, st, A, kc, ks⟩ := Γ
  obtain ⟨hx, hb, hml, hown, hts, hR, hlk, hrt, hK, hZ, hN, hA, hnl, hkc, hks⟩ := hC
  intro H locs ls hl hP hD hS
  exact W.zret hx hb hrt (show Value.int (r &&& 1) = .int r by rw [hn]) (fun t ht hW => ⟨⟨r, (), rfl, rfl, by rw [ht]; exact hP, va_K.moved hW.alike hK, hD⟩, hS.F ht⟩) hS.2.2 hd hlk

theorem j_lret {Γ : jG} {G : List (Nat × Nat)} {Rf : Nat → Nat → Option Nat} {cc : ByteArray} {nl : Nat} {own : String} {rm : Room} {pc : Nat} {lv : List (Nat × Value)} {M : jM} {r : Int64} (hC : jOK Γ cc nl own (some .long) rm) (hd : decode cc pc = .ok (.lreturn, 1))  : jJ Γ G Rf pc lv ([.long r]) M (jQl Γ Rf G r M) := by
  obtain ⟨p, l, e, R, s, m, args, below, meth, c, nL, D, cy, ad, st, A, kc, ks⟩ := Γ
  obtain ⟨hx, hb, hml, hown, hts, hR, hlk, hrt, hK, hZ, hN, hA, hnl, hkc, hks⟩ := hC
  intro H locs ls hl hP hD hS
  exact W.lret hx hb hrt (fun t ht hW => ⟨⟨r, (), rfl, rfl, by rw [ht]; exact hP, va_K.moved hW.alike hK, hD⟩, hS.F ht⟩) hS.2.2 hd hlk

theorem j_vret {Γ : jG} {G : List (Nat × Nat)} {Rf : Nat → Nat → Option Nat} {cc : ByteArray} {nl : Nat} {own : String} {rm : Room} {pc : Nat} {lv : List (Nat × Value)} {M : jM}  (hC : jOK Γ cc nl own (none) rm) (hd : decode cc pc = .ok (.return_, 1))  : jJ Γ G Rf pc lv ([]) M (jQv Γ Rf G  M) := by
  obtain ⟨p, l, e, R, s, m, args, below, meth, c, nL, D, cy, ad, st, A, kc, ks⟩ := Γ
  obtain ⟨hx, hb, hml, hown, hts, hR, hlk, hrt, hK, hZ, hN, hA, hnl, hkc, hks⟩ := hC
  intro H locs ls hl hP hD hS
  exact W.vret hx hb hrt (fun t ht hW => ⟨⟨(), rfl, trivial, by rw [ht]; exact hP, va_K.moved hW.alike hK, hD⟩, hS.F ht⟩) hS.2.2 hd hlk

def jdesc (y : MethodName) (n : Nat) : Prop := y.cls ≠ "java/lang/invoke/MethodHandle" ∧ y.cls ≠ "java/lang/invoke/VarHandle" ∧ (parseMethodDescriptor y.desc).map (fun d => d.parameters.length) = some n
def jcwV (own : String) (index : Nat) (C : String) (y : MethodName) (cc : ByteArray) (nl : Nat) (ret : Option FieldType) (n : Nat) : Prop := Cond.methodLink own index y ∈ jtb ∧ Cond.instanceMethod y ∈ jtb ∧ Cond.selects C y y ∈ jtb ∧ Cond.initialized C ∈ jtb ∧ Cond.code y cc nl ret ∈ jtb ∧ y.cls = C ∧ jdesc y n
def jcwS (own : String) (index : Nat) (y : MethodName) (cc : ByteArray) (nl : Nat) (ret : Option FieldType) (n : Nat) : Prop := Cond.methodLink own index y ∈ jtb ∧ Cond.static y ∈ jtb ∧ Cond.initialized y.cls ∈ jtb ∧ Cond.code y cc nl ret ∈ jtb ∧ jdesc y n
def jcwN (own : String) (index : Nat) (host : String) (y : MethodName) (cc : ByteArray) (nl : Nat) (ret : Option FieldType) (n : Nat) : Prop := Cond.methodLinkNest own index y host ∈ jnw ∧ Cond.static y ∈ jtb ∧ Cond.initialized y.cls ∈ jtb ∧ Cond.code y cc nl ret ∈ jtb ∧ jdesc y n

theorem j_callVi {Γ : jG} {G : List (Nat × Nat)} {Rf : Nat → Nat → Option Nat} {cc : ByteArray} {nl : Nat} {own : String} {ret : Option FieldType} {rm : Room} {pc pc' : Nat} {lv : List (Nat × Value)} {rest : List Value} {M : jM} {Q : State → Prop} {y : MethodName} {ccy : ByteArray} {nly : Nat} {rety : Option FieldType} {fr lc index n : Nat} {av : (Nat → Nat) → (Nat → Nat) → List Value} {M' : jM} {stk : List Value} (As : List Value) {r : Int32} {o ci nn N : Nat} {C : String} {T : u_T} (hC : jOK Γ cc nl own ret rm) (hd : decode cc pc = .ok (.invokevirtual index, 3)) (hp : pc + 3 = pc') (hM : jCi (jlo Γ) y ccy nly rety fr lc (jEo Γ) Rf G av M r M') (hG : G[o]? = some (10 + ci, nn)) (hcl : vwCl[ci]? = some (C, T, N)) (hw : jcwV own index C y ccy nly rety n) (hr : (fr + 1 ≤ rm.frames ∧ 8 + (nly + 11) + lc ≤ rm.locals) ∧ As.length = n ∧ (rest.map fun v => v.category).sum ≤ 8) (hav : av (jad Γ) (jst Γ) = .ref (jad Γ o) :: As) (hst : stk = As.reverse ++ .ref (jad Γ o) :: rest) (k : jJ Γ G Rf pc' lv (.int r :: rest) M' Q) : jJ Γ G Rf pc lv stk M Q := by
  subst hp
  subst hst
  obtain ⟨p, l, e, R, s, m, args, below, meth, c, nL, D, cy, ad, st, A, kc, ks⟩ := Γ
  obtain ⟨hx, hb, hml, hown, hts, hR, hlk, hrt, hK, hZ, hN, hA, hnl, hkc, hks⟩ := hC
  intro H locs ls hl hP hD hS
  have hFc : ∀ q, va_A (jws cy ad Rf M G) H.size q → A q := fun q h => by
    rcases h with ⟨k9, e9, h9⟩ | h9
    · exact hD.2 k9 (q, e9) h9
    · exact hA q (Nat.le_trans hS.1 h9)
  have hU : ∀ U : State, U.heap = H → s.WarmedH U.vm → jPre (D, cy, ad, st) Rf G M H.size U := fun U hUh hW => ⟨by rw [hUh], by rw [hUh]; exact hP, va_K.moved hW.alike hK, hD.weaken (fun _ _ _ _ => trivial), by rw [hUh]; exact jZ_moved hW.alike (jZ_narrow (jZ_kept hZ (fun a h1 h2 => hS.2.1 a h1 h2)) hFc), jN_warm hW hN⟩
  have hM1 := hM H.size
  have hav1 : av ad st = .ref (ad o) :: As := hav
  have he := jws_at (cy := cy) (ad := ad) (R := Rf) (M := M) hG
  rw [jcell_o] at he
  obtain ⟨w1, w2, w3, w4, w5, w6, w7⟩ := hw
  have hGI : GoodIn jtb (wsV own index C y (.code y ccy nly rety :: jtb)) := fun w hw => by
    rcases List.mem_append.mp hw with hw | hw
    · simp only [List.mem_cons, List.mem_nil_iff, or_false] at hw
      rcases hw with rfl | rfl | rfl | rfl
      · exact ⟨w1, jtb_good w1⟩
      · exact ⟨w2, jtb_good w2⟩
      · exact ⟨w3, jtb_good w3⟩
      · exact ⟨w4, jtb_good w4⟩
    · exact jgood w5 w hw
  subst hR
  refine va_calli (va_runV (As := As) (rest := rest) ⟨hx, hb, hml, hown, hts⟩ hM1 (cwV n hts hGI rfl rfl rfl ⟨w6, w7⟩ hr.1) ⟨jPre_blind, va_recv hK hP hcl he, fun U hUh hW => ⟨(congrArg List.toArray hav1).symm, hU U hUh hW⟩⟩ rfl hr.2.1 hl.1 rfl (lv_room hr.2.2) hd ⟨hkc, hks⟩) hS (fun q _ h => hFc q h) hFc (fun r9 u t H1 locs1 ht hvm hw9 hB hz1 hk1 hS1 => ?_)
  subst hw9
  obtain ⟨hP1, hK1, hD1⟩ := hB
  rw [ht] at hP1
  exact k H1 locs1 ls hl hP1 (hD1.weaken (fun _ q _ h => hFc q.1 h)) hS1

theorem j_callSi {Γ : jG} {G : List (Nat × Nat)} {Rf : Nat → Nat → Option Nat} {cc : ByteArray} {nl : Nat} {own : String} {ret : Option FieldType} {rm : Room} {pc pc' : Nat} {lv : List (Nat × Value)} {rest : List Value} {M : jM} {Q : State → Prop} {y : MethodName} {ccy : ByteArray} {nly : Nat} {rety : Option FieldType} {fr lc index n : Nat} {av : (Nat → Nat) → (Nat → Nat) → List Value} {M' : jM} {stk : List Value} (As : List Value) {r : Int32} (hC : jOK Γ cc nl own ret rm) (hd : decode cc pc = .ok (.invokestatic index, 3)) (hp : pc + 3 = pc') (hM : jCi (jlo Γ) y ccy nly rety fr lc (jEo Γ) Rf G av M r M') (hw : jcwS own index y ccy nly rety n) (hr : (fr + 1 ≤ rm.frames ∧ 8 + (nly + 11) + lc ≤ rm.locals) ∧ As.length = n ∧ (rest.map fun v => v.category).sum ≤ 8) (hav : av (jad Γ) (jst Γ) = As) (hst : stk = As.reverse ++ rest) (k : jJ Γ G Rf pc' lv (.int r :: rest) M' Q) : jJ Γ G Rf pc lv stk M Q := by
  subst hp
  subst hst
  obtain ⟨p, l, e, R, s, m, args, below, meth, c, nL, D, cy, ad, st, A, kc, ks⟩ := Γ
  obtain ⟨hx, hb, hml, hown, hts, hR, hlk, hrt, hK, hZ, hN, hA, hnl, hkc, hks⟩ := hC
  intro H locs ls hl hP hD hS
  have hFc : ∀ q, va_A (jws cy ad Rf M G) H.size q → A q := fun q h => by
    rcases h with ⟨k9, e9, h9⟩ | h9
    · exact hD.2 k9 (q, e9) h9
    · exact hA q (Nat.le_trans hS.1 h9)
  have hU : ∀ U : State, U.heap = H → s.WarmedH U.vm → jPre (D, cy, ad, st) Rf G M H.size U := fun U hUh hW => ⟨by rw [hUh], by rw [hUh]; exact hP, va_K.moved hW.alike hK, hD.weaken (fun _ _ _ _ => trivial), by rw [hUh]; exact jZ_moved hW.alike (jZ_narrow (jZ_kept hZ (fun a h1 h2 => hS.2.1 a h1 h2)) hFc), jN_warm hW hN⟩
  have hM1 := hM H.size
  have hav1 : av ad st = As := hav
  obtain ⟨w1, w2, w3, w5, w7⟩ := hw
  have hGI : GoodIn jtb (va_wsS own index y (.code y ccy nly rety :: jtb)) := fun w hw => by
    rcases List.mem_append.mp hw with hw | hw
    · simp only [List.mem_cons, List.mem_nil_iff, or_false] at hw
      rcases hw with rfl | rfl | rfl
      · exact ⟨w1, jtb_good w1⟩
      · exact ⟨w2, jtb_good w2⟩
      · exact ⟨w3, jtb_good w3⟩
    · exact jgood w5 w hw
  subst hR
  refine va_calli (va_runS (As := As) (rest := rest) ⟨hx, hb, hml, hown, hts⟩ hM1 (va_cwS n hts hGI rfl rfl rfl w7 hr.1) ⟨jPre_blind, fun U hUh hW => ⟨(congrArg List.toArray hav1).symm, hU U hUh hW⟩⟩ rfl hr.2.1 hl.1 rfl (lv_room hr.2.2) hd ⟨hkc, hks⟩) hS (fun q _ h => hFc q h) hFc (fun r9 u t H1 locs1 ht hvm hw9 hB hz1 hk1 hS1 => ?_)
  subst hw9
  obtain ⟨hP1, hK1, hD1⟩ := hB
  rw [ht] at hP1
  exact k H1 locs1 ls hl hP1 (hD1.weaken (fun _ q _ h => hFc q.1 h)) hS1

theorem j_callNi {Γ : jG} {G : List (Nat × Nat)} {Rf : Nat → Nat → Option Nat} {cc : ByteArray} {nl : Nat} {own : String} {ret : Option FieldType} {rm : Room} {pc pc' : Nat} {lv : List (Nat × Value)} {rest : List Value} {M : jM} {Q : State → Prop} {y : MethodName} {ccy : ByteArray} {nly : Nat} {rety : Option FieldType} {fr lc index n : Nat} {av : (Nat → Nat) → (Nat → Nat) → List Value} {M' : jM} {stk : List Value} (As : List Value) {r : Int32} {host : String} (hC : jOK Γ cc nl own ret rm) (hd : decode cc pc = .ok (.invokestatic index, 3)) (hp : pc + 3 = pc') (hM : jCi (jlo Γ) y ccy nly rety fr lc (jEo Γ) Rf G av M r M') (hw : jcwN own index host y ccy nly rety n) (hr : (fr + 1 ≤ rm.frames ∧ 8 + (nly + 11) + lc ≤ rm.locals) ∧ As.length = n ∧ (rest.map fun v => v.category).sum ≤ 8) (hav : av (jad Γ) (jst Γ) = As) (hst : stk = As.reverse ++ rest) (k : jJ Γ G Rf pc' lv (.int r :: rest) M' Q) : jJ Γ G Rf pc lv stk M Q := by
  subst hp
  subst hst
  obtain ⟨p, l, e, R, s, m, args, below, meth, c, nL, D, cy, ad, st, A, kc, ks⟩ := Γ
  obtain ⟨hx, hb, hml, hown, hts, hR, hlk, hrt, hK, hZ, hN, hA, hnl, hkc, hks⟩ := hC
  intro H locs ls hl hP hD hS
  have hFc : ∀ q, va_A (jws cy ad Rf M G) H.size q → A q := fun q h => by
    rcases h with ⟨k9, e9, h9⟩ | h9
    · exact hD.2 k9 (q, e9) h9
    · exact hA q (Nat.le_trans hS.1 h9)
  have hU : ∀ U : State, U.heap = H → s.WarmedH U.vm → jPre (D, cy, ad, st) Rf G M H.size U := fun U hUh hW => ⟨by rw [hUh], by rw [hUh]; exact hP, va_K.moved hW.alike hK, hD.weaken (fun _ _ _ _ => trivial), by rw [hUh]; exact jZ_moved hW.alike (jZ_narrow (jZ_kept hZ (fun a h1 h2 => hS.2.1 a h1 h2)) hFc), jN_warm hW hN⟩
  have hM1 := hM H.size
  have hav1 : av ad st = As := hav
  obtain ⟨w1, w2, w3, w5, w7⟩ := hw
  subst hR
  refine va_calli (va_runSN (As := As) (rest := rest) ⟨hx, hb, hml, hown, hts⟩ hM1 ⟨va_cnB n hts (jgood w5) rfl rfl rfl (hN _ w1) (hts _ w3) w7 hr.1, hts _ w2, trivial⟩ ⟨jPre_blind, fun U hUh hW => ⟨(congrArg List.toArray hav1).symm, hU U hUh hW⟩⟩ rfl hr.2.1 hl.1 rfl (lv_room hr.2.2) hd ⟨hkc, hks⟩) hS (fun q _ h => hFc q h) hFc (fun r9 u t H1 locs1 ht hvm hw9 hB hz1 hk1 hS1 => ?_)
  subst hw9
  obtain ⟨hP1, hK1, hD1⟩ := hB
  rw [ht] at hP1
  exact k H1 locs1 ls hl hP1 (hD1.weaken (fun _ q _ h => hFc q.1 h)) hS1

theorem j_callVl {Γ : jG} {G : List (Nat × Nat)} {Rf : Nat → Nat → Option Nat} {cc : ByteArray} {nl : Nat} {own : String} {ret : Option FieldType} {rm : Room} {pc pc' : Nat} {lv : List (Nat × Value)} {rest : List Value} {M : jM} {Q : State → Prop} {y : MethodName} {ccy : ByteArray} {nly : Nat} {rety : Option FieldType} {fr lc index n : Nat} {av : (Nat → Nat) → (Nat → Nat) → List Value} {M' : jM} {stk : List Value} (As : List Value) {r : Int64} {o ci nn N : Nat} {C : String} {T : u_T} (hC : jOK Γ cc nl own ret rm) (hd : decode cc pc = .ok (.invokevirtual index, 3)) (hp : pc + 3 = pc') (hM : jCl (jlo Γ) y ccy nly rety fr lc (jEo Γ) Rf G av M r M') (hG : G[o]? = some (10 + ci, nn)) (hcl : vwCl[ci]? = some (C, T, N)) (hw : jcwV own index C y ccy nly rety n) (hr : (fr + 1 ≤ rm.frames ∧ 8 + (nly + 11) + lc ≤ rm.locals) ∧ As.length = n ∧ (rest.map fun v => v.category).sum ≤ 8) (hav : av (jad Γ) (jst Γ) = .ref (jad Γ o) :: As) (hst : stk = As.reverse ++ .ref (jad Γ o) :: rest) (k : jJ Γ G Rf pc' lv (.long r :: rest) M' Q) : jJ Γ G Rf pc lv stk M Q := by
  subst hp
  subst hst
  obtain ⟨p, l, e, R, s, m, args, below, meth, c, nL, D, cy, ad, st, A, kc, ks⟩ := Γ
  obtain ⟨hx, hb, hml, hown, hts, hR, hlk, hrt, hK, hZ, hN, hA, hnl, hkc, hks⟩ := hC
  intro H locs ls hl hP hD hS
  have hFc : ∀ q, va_A (jws cy ad Rf M G) H.size q → A q := fun q h => by
    rcases h with ⟨k9, e9, h9⟩ | h9
    · exact hD.2 k9 (q, e9) h9
    · exact hA q (Nat.le_trans hS.1 h9)
  have hU : ∀ U : State, U.heap = H → s.WarmedH U.vm → jPre (D, cy, ad, st) Rf G M H.size U := fun U hUh hW => ⟨by rw [hUh], by rw [hUh]; exact hP, va_K.moved hW.alike hK, hD.weaken (fun _ _ _ _ => trivial), by rw [hUh]; exact jZ_moved hW.alike (jZ_narrow (jZ_kept hZ (fun a h1 h2 => hS.2.1 a h1 h2)) hFc), jN_warm hW hN⟩
  have hM1 := hM H.size
  have hav1 : av ad st = .ref (ad o) :: As := hav
  have he := jws_at (cy := cy) (ad := ad) (R := Rf) (M := M) hG
  rw [jcell_o] at he
  obtain ⟨w1, w2, w3, w4, w5, w6, w7⟩ := hw
  have hGI : GoodIn jtb (wsV own index C y (.code y ccy nly rety :: jtb)) := fun w hw => by
    rcases List.mem_append.mp hw with hw | hw
    · simp only [List.mem_cons, List.mem_nil_iff, or_false] at hw
      rcases hw with rfl | rfl | rfl | rfl
      · exact ⟨w1, jtb_good w1⟩
      · exact ⟨w2, jtb_good w2⟩
      · exact ⟨w3, jtb_good w3⟩
      · exact ⟨w4, jtb_good w4⟩
    · exact jgood w5 w hw
  subst hR
  refine va_calll (va_runV (As := As) (rest := rest) ⟨hx, hb, hml, hown, hts⟩ hM1 (cwV n hts hGI rfl rfl rfl ⟨w6, w7⟩ hr.1) ⟨jPre_blind, va_recv hK hP hcl he, fun U hUh hW => ⟨(congrArg List.toArray hav1).symm, hU U hUh hW⟩⟩ rfl hr.2.1 hl.1 rfl (lv_room hr.2.2) hd ⟨hkc, hks⟩) hS (fun q _ h => hFc q h) hFc (fun r9 u t H1 locs1 ht hvm hw9 hB hz1 hk1 hS1 => ?_)
  subst hw9
  obtain ⟨hP1, hK1, hD1⟩ := hB
  rw [ht] at hP1
  exact k H1 locs1 ls hl hP1 (hD1.weaken (fun _ q _ h => hFc q.1 h)) hS1

theorem j_callSl {Γ : jG} {G : List (Nat × Nat)} {Rf : Nat → Nat → Option Nat} {cc : ByteArray} {nl : Nat} {own : String} {ret : Option FieldType} {rm : Room} {pc pc' : Nat} {lv : List (Nat × Value)} {rest : List Value} {M : jM} {Q : State → Prop} {y : MethodName} {ccy : ByteArray} {nly : Nat} {rety : Option FieldType} {fr lc index n : Nat} {av : (Nat → Nat) → (Nat → Nat) → List Value} {M' : jM} {stk : List Value} (As : List Value) {r : Int64} (hC : jOK Γ cc nl own ret rm) (hd : decode cc pc = .ok (.invokestatic index, 3)) (hp : pc + 3 = pc') (hM : jCl (jlo Γ) y ccy nly rety fr lc (jEo Γ) Rf G av M r M') (hw : jcwS own index y ccy nly rety n) (hr : (fr + 1 ≤ rm.frames ∧ 8 + (nly + 11) + lc ≤ rm.locals) ∧ As.length = n ∧ (rest.map fun v => v.category).sum ≤ 8) (hav : av (jad Γ) (jst Γ) = As) (hst : stk = As.reverse ++ rest) (k : jJ Γ G Rf pc' lv (.long r :: rest) M' Q) : jJ Γ G Rf pc lv stk M Q := by
  subst hp
  subst hst
  obtain ⟨p, l, e, R, s, m, args, below, meth, c, nL, D, cy, ad, st, A, kc, ks⟩ := Γ
  obtain ⟨hx, hb, hml, hown, hts, hR, hlk, hrt, hK, hZ, hN, hA, hnl, hkc, hks⟩ := hC
  intro H locs ls hl hP hD hS
  have hFc : ∀ q, va_A (jws cy ad Rf M G) H.size q → A q := fun q h => by
    rcases h with ⟨k9, e9, h9⟩ | h9
    · exact hD.2 k9 (q, e9) h9
    · exact hA q (Nat.le_trans hS.1 h9)
  have hU : ∀ U : State, U.heap = H → s.WarmedH U.vm → jPre (D, cy, ad, st) Rf G M H.size U := fun U hUh hW => ⟨by rw [hUh], by rw [hUh]; exact hP, va_K.moved hW.alike hK, hD.weaken (fun _ _ _ _ => trivial), by rw [hUh]; exact jZ_moved hW.alike (jZ_narrow (jZ_kept hZ (fun a h1 h2 => hS.2.1 a h1 h2)) hFc), jN_warm hW hN⟩
  have hM1 := hM H.size
  have hav1 : av ad st = As := hav
  obtain ⟨w1, w2, w3, w5, w7⟩ := hw
  have hGI : GoodIn jtb (va_wsS own index y (.code y ccy nly rety :: jtb)) := fun w hw => by
    rcases List.mem_append.mp hw with hw | hw
    · simp only [List.mem_cons, List.mem_nil_iff, or_false] at hw
      rcases hw with rfl | rfl | rfl
      · exact ⟨w1, jtb_good w1⟩
      · exact ⟨w2, jtb_good w2⟩
      · exact ⟨w3, jtb_good w3⟩
    · exact jgood w5 w hw
  subst hR
  refine va_calll (va_runS (As := As) (rest := rest) ⟨hx, hb, hml, hown, hts⟩ hM1 (va_cwS n hts hGI rfl rfl rfl w7 hr.1) ⟨jPre_blind, fun U hUh hW => ⟨(congrArg List.toArray hav1).symm, hU U hUh hW⟩⟩ rfl hr.2.1 hl.1 rfl (lv_room hr.2.2) hd ⟨hkc, hks⟩) hS (fun q _ h => hFc q h) hFc (fun r9 u t H1 locs1 ht hvm hw9 hB hz1 hk1 hS1 => ?_)
  subst hw9
  obtain ⟨hP1, hK1, hD1⟩ := hB
  rw [ht] at hP1
  exact k H1 locs1 ls hl hP1 (hD1.weaken (fun _ q _ h => hFc q.1 h)) hS1

theorem j_callVv {Γ : jG} {G : List (Nat × Nat)} {Rf : Nat → Nat → Option Nat} {cc : ByteArray} {nl : Nat} {own : String} {ret : Option FieldType} {rm : Room} {pc pc' : Nat} {lv : List (Nat × Value)} {rest : List Value} {M : jM} {Q : State → Prop} {y : MethodName} {ccy : ByteArray} {nly : Nat} {rety : Option FieldType} {fr lc index n : Nat} {av : (Nat → Nat) → (Nat → Nat) → List Value} {M' : jM} {stk : List Value} (As : List Value)  {o ci nn N : Nat} {C : String} {T : u_T} (hC : jOK Γ cc nl own ret rm) (hd : decode cc pc = .ok (.invokevirtual index, 3)) (hp : pc + 3 = pc') (hM : jCv (jlo Γ) y ccy nly rety fr lc (jEo Γ) Rf G av M  M') (hG : G[o]? = some (10 + ci, nn)) (hcl : vwCl[ci]? = some (C, T, N)) (hw : jcwV own index C y ccy nly rety n) (hr : (fr + 1 ≤ rm.frames ∧ 8 + (nly + 11) + lc ≤ rm.locals) ∧ As.length = n ∧ (rest.map fun v => v.category).sum ≤ 8) (hav : av (jad Γ) (jst Γ) = .ref (jad Γ o) :: As) (hst : stk = As.reverse ++ .ref (jad Γ o) :: rest) (k : jJ Γ G Rf pc' lv (rest) M' Q) : jJ Γ G Rf pc lv stk M Q := by
  subst hp
  subst hst
  obtain ⟨p, l, e, R, s, m, args, below, meth, c, nL, D, cy, ad, st, A, kc, ks⟩ := Γ
  obtain ⟨hx, hb, hml, hown, hts, hR, hlk, hrt, hK, hZ, hN, hA, hnl, hkc, hks⟩ := hC
  intro H locs ls hl hP hD hS
  have hFc : ∀ q, va_A (jws cy ad Rf M G) H.size q → A q := fun q h => by
    rcases h with ⟨k9, e9, h9⟩ | h9
    · exact hD.2 k9 (q, e9) h9
    · exact hA q (Nat.le_trans hS.1 h9)
  have hU : ∀ U : State, U.heap = H → s.WarmedH U.vm → jPre (D, cy, ad, st) Rf G M H.size U := fun U hUh hW => ⟨by rw [hUh], by rw [hUh]; exact hP, va_K.moved hW.alike hK, hD.weaken (fun _ _ _ _ => trivial), by rw [hUh]; exact jZ_moved hW.alike (jZ_narrow (jZ_kept hZ (fun a h1 h2 => hS.2.1 a h1 h2)) hFc), jN_warm hW hN⟩
  have hM1 := hM H.size
  have hav1 : av ad st = .ref (ad o) :: As := hav
  have he := jws_at (cy := cy) (ad := ad) (R := Rf) (M := M) hG
  rw [jcell_o] at he
  obtain ⟨w1, w2, w3, w4, w5, w6, w7⟩ := hw
  have hGI : GoodIn jtb (wsV own index C y (.code y ccy nly rety :: jtb)) := fun w hw => by
    rcases List.mem_append.mp hw with hw | hw
    · simp only [List.mem_cons, List.mem_nil_iff, or_false] at hw
      rcases hw with rfl | rfl | rfl | rfl
      · exact ⟨w1, jtb_good w1⟩
      · exact ⟨w2, jtb_good w2⟩
      · exact ⟨w3, jtb_good w3⟩
      · exact ⟨w4, jtb_good w4⟩
    · exact jgood w5 w hw
  subst hR
  refine va_callv (va_runV (As := As) (rest := rest) ⟨hx, hb, hml, hown, hts⟩ hM1 (cwV n hts hGI rfl rfl rfl ⟨w6, w7⟩ hr.1) ⟨jPre_blind, va_recv hK hP hcl he, fun U hUh hW => ⟨(congrArg List.toArray hav1).symm, hU U hUh hW⟩⟩ rfl hr.2.1 hl.1 rfl (lv_room hr.2.2) hd ⟨hkc, hks⟩) hS (fun q _ h => hFc q h) hFc (fun u t H1 locs1 ht hvm hw9 hB hz1 hk1 hS1 => ?_)
  obtain ⟨hP1, hK1, hD1⟩ := hB
  rw [ht] at hP1
  exact k H1 locs1 ls hl hP1 (hD1.weaken (fun _ q _ h => hFc q.1 h)) hS1

theorem j_callSv {Γ : jG} {G : List (Nat × Nat)} {Rf : Nat → Nat → Option Nat} {cc : ByteArray} {nl : Nat} {own : String} {ret : Option FieldType} {rm : Room} {pc pc' : Nat} {lv : List (Nat × Value)} {rest : List Value} {M : jM} {Q : State → Prop} {y : MethodName} {ccy : ByteArray} {nly : Nat} {rety : Option FieldType} {fr lc index n : Nat} {av : (Nat → Nat) → (Nat → Nat) → List Value} {M' : jM} {stk : List Value} (As : List Value)  (hC : jOK Γ cc nl own ret rm) (hd : decode cc pc = .ok (.invokestatic index, 3)) (hp : pc + 3 = pc') (hM : jCv (jlo Γ) y ccy nly rety fr lc (jEo Γ) Rf G av M  M') (hw : jcwS own index y ccy nly rety n) (hr : (fr + 1 ≤ rm.frames ∧ 8 + (nly + 11) + lc ≤ rm.locals) ∧ As.length = n ∧ (rest.map fun v => v.category).sum ≤ 8) (hav : av (jad Γ) (jst Γ) = As) (hst : stk = As.reverse ++ rest) (k : jJ Γ G Rf pc' lv (rest) M' Q) : jJ Γ G Rf pc lv stk M Q := by
  subst hp
  subst hst
  obtain ⟨p, l, e, R, s, m, args, below, meth, c, nL, D, cy, ad, st, A, kc, ks⟩ := Γ
  obtain ⟨hx, hb, hml, hown, hts, hR, hlk, hrt, hK, hZ, hN, hA, hnl, hkc, hks⟩ := hC
  intro H locs ls hl hP hD hS
  have hFc : ∀ q, va_A (jws cy ad Rf M G) H.size q → A q := fun q h => by
    rcases h with ⟨k9, e9, h9⟩ | h9
    · exact hD.2 k9 (q, e9) h9
    · exact hA q (Nat.le_trans hS.1 h9)
  have hU : ∀ U : State, U.heap = H → s.WarmedH U.vm → jPre (D, cy, ad, st) Rf G M H.size U := fun U hUh hW => ⟨by rw [hUh], by rw [hUh]; exact hP, va_K.moved hW.alike hK, hD.weaken (fun _ _ _ _ => trivial), by rw [hUh]; exact jZ_moved hW.alike (jZ_narrow (jZ_kept hZ (fun a h1 h2 => hS.2.1 a h1 h2)) hFc), jN_warm hW hN⟩
  have hM1 := hM H.size
  have hav1 : av ad st = As := hav
  obtain ⟨w1, w2, w3, w5, w7⟩ := hw
  have hGI : GoodIn jtb (va_wsS own index y (.code y ccy nly rety :: jtb)) := fun w hw => by
    rcases List.mem_append.mp hw with hw | hw
    · simp only [List.mem_cons, List.mem_nil_iff, or_false] at hw
      rcases hw with rfl | rfl | rfl
      · exact ⟨w1, jtb_good w1⟩
      · exact ⟨w2, jtb_good w2⟩
      · exact ⟨w3, jtb_good w3⟩
    · exact jgood w5 w hw
  subst hR
  refine va_callv (va_runS (As := As) (rest := rest) ⟨hx, hb, hml, hown, hts⟩ hM1 (va_cwS n hts hGI rfl rfl rfl w7 hr.1) ⟨jPre_blind, fun U hUh hW => ⟨(congrArg List.toArray hav1).symm, hU U hUh hW⟩⟩ rfl hr.2.1 hl.1 rfl (lv_room hr.2.2) hd ⟨hkc, hks⟩) hS (fun q _ h => hFc q h) hFc (fun u t H1 locs1 ht hvm hw9 hB hz1 hk1 hS1 => ?_)
  obtain ⟨hP1, hK1, hD1⟩ := hB
  rw [ht] at hP1
  exact k H1 locs1 ls hl hP1 (hD1.weaken (fun _ q _ h => hFc q.1 h)) hS1

def jcok (sp dp n : Int32) (n1 n2 : Nat) : Bool := decide (¬ sp < 0) && decide (¬ dp < 0) && decide (¬ n < 0) && decide (sp.toNatClampNeg + n.toNatClampNeg ≤ n1) && decide (dp.toNatClampNeg + n.toNatClampNeg ≤ n2)
theorem j_acopy {Γ : jG} {G : List (Nat × Nat)} {Rf : Nat → Nat → Option Nat} {cc : ByteArray} {nl : Nat} {own : String} {ret : Option FieldType} {rm : Room} {pc pc' : Nat} {lv : List (Nat × Value)} {rest : List Value} {M : jM} {Q : State → Prop} {o1 o2 n1 n2 index : Nat} {sp dp n : Int32} (hC : jOK Γ cc nl own ret rm) (hd : decode cc pc = .ok (.invokestatic index, 3)) (hp : pc + 3 = pc') (hw : (Cond.methodLink own index arraycopyName ∈ jtb ∧ Cond.native arraycopyName ∈ jtb ∧ Cond.static arraycopyName ∈ jtb ∧ Cond.initialized "java/lang/System" ∈ jtb)) (hG1 : G[o1]? = some (0, n1)) (hG2 : G[o2]? = some (0, n2)) (hk : jcok sp dp n n1 n2 = true) (hr : 1 ≤ rm.frames ∧ (rest.map fun v => v.category).sum + (nativeFrameWords "java/lang/System" "arraycopy" 5 + 11) ≤ rm.locals) (k : jJ Γ G Rf pc' lv rest (jcp M (gi M o1) sp.toNatClampNeg o2 dp.toNatClampNeg n.toNatClampNeg) Q) : jJ Γ G Rf pc lv (.int n :: .int dp :: .ref (jad Γ o2) :: .int sp :: .ref (jad Γ o1) :: rest) M Q := by
  subst hp
  obtain ⟨p, l, e, R, s, m, args, below, meth, c, nL, D, cy, ad, st, A, kc, ks⟩ := Γ
  obtain ⟨hx, hb, hml, hown, hts, hR, hlk, hrt, hK, hZ, hN, hA, hnl, hkc, hks⟩ := hC
  intro H locs ls hl hP hD hS
  have he1 := jws_at (cy := cy) (ad := ad) (R := Rf) (M := M) hG1
  have he2 := jws_at (cy := cy) (ad := ad) (R := Rf) (M := M) hG2
  unfold jcok at hk
  simp only [Bool.and_eq_true, decide_eq_true_eq] at hk
  obtain ⟨⟨⟨⟨c1, c2⟩, c3⟩, c4⟩, c5⟩ := hk
  obtain ⟨w1, w2, w3, w4⟩ := hw
  subst hR
  refine va_copyi (D := D) (ty := .int) hx hb (by rw [hml]; exact hl.1.symm) hown (hts _ w1) (hts _ w2) (hts _ w3) (hts _ w4) hK hP hD hS o1 o2 0 0 he1 he2 rfl rfl rfl c1 c2 c3 c4 c5 (fun _ _ => rfl) hr.1 hr.2 hd (fun H1 locs1 hP1 hD1 hS1 => ?_)
  have e9 : (jws cy ad Rf M G).set o2 (ad o2, .inl (cy 0, n2, .inl (va_cpy (gi M o1) (gi M o2) sp.toNatClampNeg dp.toNatClampNeg n.toNatClampNeg))) = jws cy ad Rf (jcp M (gi M o1) sp.toNatClampNeg o2 dp.toNatClampNeg n.toNatClampNeg) G := jws_set hG2 (by
    rw [jcell_0]
    congr 4
    funext j
    simp [va_cpy, gi_jcp]) (fun a b h => by simp [gi_jcp, h]) (fun a b h => by simp [gl_jcp])
  have hP2 : va_P D vwCl (jws cy ad Rf (jcp M (gi M o1) sp.toNatClampNeg o2 dp.toNatClampNeg n.toNatClampNeg) G) H1 := by rw [← e9]; exact hP1
  have hD2 : va_D A (jws cy ad Rf (jcp M (gi M o1) sp.toNatClampNeg o2 dp.toNatClampNeg n.toNatClampNeg) G) := by rw [← e9]; exact hD1
  exact k H1 locs1 ls hl hP2 hD2 hS1
