/-! THE LAW: two memories, the class's and the reference's, side by side -/
abbrev kΛ : Type := Program × Launch × Env × State × MethodId × List Frame × Method × Code × Nat × Nat × (Nat → Int32) × va_G × (Nat → ClassId) × (Nat → Nat) × (Nat → Nat) × (Nat → Nat)
def kA (s : State) : Nat → Prop := fun q => s.heap.size ≤ q
def kOK (Λ : kΛ) : Prop := match Λ with
  | (p, l, e, s, m, below, meth, c, b, L, xs, D, cy, adx, adm, st) => p.tables.exec = Jvm.exec ∧ c.code = cL_law ∧ c.maxLocals = 4 ∧ s.vm.findClass RL = some m.cls ∧ (∀ w ∈ jtb, w.before #[Value.ref b] s = true) ∧ meth.locks = false ∧ meth.sig.returnType = ret ∧ va_X b L xs s s.heap ∧ b < s.heap.size ∧ va_K D vwCl (jtys cy) s ∧ jZ st (kA s) s s.heap ∧ jN s ∧ (∀ o o' : Nat, o < 69 → o' < 23 → adx o ≠ adm o')
def kJ (Λ : kΛ) (pc : Nat) (lv : List (Nat × Value)) (stk : List Value) (Mx Mm : jM) : Prop := match Λ with
  | (p, l, e, s, m, below, meth, c, b, L, xs, D, cy, adx, adm, st) => ∀ (H : Heap) (locs : List Loc) (ls : Array Slot), lv_has ls 4 lv → va_P D vwCl (jws cy adx RX Mx GX) H → va_D (kA s) (jws cy adx RX Mx GX) → va_P D vwCl (jws cy adm RM Mm GM) H → va_D (kA s) (jws cy adm RM Mm GM) → va_S (kA s) s.heap H locs → W p l e room_1 s m #[Value.ref b] below meth c H locs 600000 7302250 (lw_Z below #[Value.ref b] s) (F0 m pc ls stk)
def kb (Λ : kΛ) : Nat := match Λ with
  | (p, l, e, s, m, below, meth, c, b, L, xs, D, cy, adx, adm, st) => b
def kL (Λ : kΛ) : Nat := match Λ with
  | (p, l, e, s, m, below, meth, c, b, L, xs, D, cy, adx, adm, st) => L
def kxs (Λ : kΛ) : Nat → Int32 := match Λ with
  | (p, l, e, s, m, below, meth, c, b, L, xs, D, cy, adx, adm, st) => xs
def kx (Λ : kΛ) : Nat → Nat := match Λ with
  | (p, l, e, s, m, below, meth, c, b, L, xs, D, cy, adx, adm, st) => adx
def km (Λ : kΛ) : Nat → Nat := match Λ with
  | (p, l, e, s, m, below, meth, c, b, L, xs, D, cy, adx, adm, st) => adm
def kl (Λ : kΛ) : Launch := match Λ with
  | (p, l, e, s, m, below, meth, c, b, L, xs, D, cy, adx, adm, st) => l
def kEx (Λ : kΛ) : jE := match Λ with
  | (p, l, e, s, m, below, meth, c, b, L, xs, D, cy, adx, adm, st) => (D, cy, adx, st)
def kEm (Λ : kΛ) : jE := match Λ with
  | (p, l, e, s, m, below, meth, c, b, L, xs, D, cy, adx, adm, st) => (D, cy, adm, st)

theorem k_iconst {Λ : kΛ} {pc pc' : Nat} {lv : List (Nat × Value)} {rest : List Value} {Mx Mm : jM} {n : Int} {v : Int32} (hC : kOK Λ) (hd : decode cL_law pc = .ok (.iconst n, 1)) (hp : pc + 1 = pc') (hv : Int32.ofInt n = v) (k : kJ Λ pc' lv (.int v :: rest) Mx Mm) : kJ Λ pc lv (rest) Mx Mm := by
  subst hp
  obtain ⟨p, l, e, s, m, below, meth, c, b, L, xs, D, cy, adx, adm, st⟩ := Λ
  obtain ⟨hx, hb, hml, hown, hts, hlk, hrt, hX, hbl, hK, hZ, hN, hdis⟩ := hC
  intro H locs ls hl hP hD hP2 hD2 hS
  exact lv_iconst hx hb hd hv (k H locs ls hl hP hD hP2 hD2 hS)

theorem k_bipush {Λ : kΛ} {pc pc' : Nat} {lv : List (Nat × Value)} {rest : List Value} {Mx Mm : jM} {n : Int} {v : Int32} (hC : kOK Λ) (hd : decode cL_law pc = .ok (.bipush n, 2)) (hp : pc + 2 = pc') (hv : (Int8.ofInt n).toInt32 = v) (k : kJ Λ pc' lv (.int v :: rest) Mx Mm) : kJ Λ pc lv (rest) Mx Mm := by
  subst hp
  obtain ⟨p, l, e, s, m, below, meth, c, b, L, xs, D, cy, adx, adm, st⟩ := Λ
  obtain ⟨hx, hb, hml, hown, hts, hlk, hrt, hX, hbl, hK, hZ, hN, hdis⟩ := hC
  intro H locs ls hl hP hD hP2 hD2 hS
  exact lv_bipush hx hb hd hv (k H locs ls hl hP hD hP2 hD2 hS)

theorem k_iload_n {Λ : kΛ} {pc pc' : Nat} {lv : List (Nat × Value)} {rest : List Value} {Mx Mm : jM} (q : Nat) {f : Fin 4} {x : Int32} (hC : kOK Λ) (hd : decode cL_law pc = .ok (.iload_n f, 1)) (hp : pc + 1 = pc') (hq : lv[q]? = some ((f : Nat), .int x)) (k : kJ Λ pc' lv (.int x :: rest) Mx Mm) : kJ Λ pc lv (rest) Mx Mm := by
  subst hp
  obtain ⟨p, l, e, s, m, below, meth, c, b, L, xs, D, cy, adx, adm, st⟩ := Λ
  obtain ⟨hx, hb, hml, hown, hts, hlk, hrt, hX, hbl, hK, hZ, hN, hdis⟩ := hC
  intro H locs ls hl hP hD hP2 hD2 hS
  exact lv_iload_n hx hb hd rfl (lv_at hl q hq) (k H locs ls hl hP hD hP2 hD2 hS)

theorem k_aload_n {Λ : kΛ} {pc pc' : Nat} {lv : List (Nat × Value)} {rest : List Value} {Mx Mm : jM} (q : Nat) {f : Fin 4} {a : Nat} (hC : kOK Λ) (hd : decode cL_law pc = .ok (.aload_n f, 1)) (hp : pc + 1 = pc') (hq : lv[q]? = some ((f : Nat), .ref a)) (k : kJ Λ pc' lv (.ref a :: rest) Mx Mm) : kJ Λ pc lv (rest) Mx Mm := by
  subst hp
  obtain ⟨p, l, e, s, m, below, meth, c, b, L, xs, D, cy, adx, adm, st⟩ := Λ
  obtain ⟨hx, hb, hml, hown, hts, hlk, hrt, hX, hbl, hK, hZ, hN, hdis⟩ := hC
  intro H locs ls hl hP hD hP2 hD2 hS
  exact lv_aload_n hx hb hd rfl (lv_at hl q hq) (k H locs ls hl hP hD hP2 hD2 hS)

theorem k_iadd {Λ : kΛ} {pc pc' : Nat} {lv : List (Nat × Value)} {rest : List Value} {Mx Mm : jM} {x y : Int32} (hC : kOK Λ) (hd : decode cL_law pc = .ok (.iadd, 1)) (hp : pc + 1 = pc')  (k : kJ Λ pc' lv (.int (x + y) :: rest) Mx Mm) : kJ Λ pc lv (.int y :: .int x :: rest) Mx Mm := by
  subst hp
  obtain ⟨p, l, e, s, m, below, meth, c, b, L, xs, D, cy, adx, adm, st⟩ := Λ
  obtain ⟨hx, hb, hml, hown, hts, hlk, hrt, hX, hbl, hK, hZ, hN, hdis⟩ := hC
  intro H locs ls hl hP hD hP2 hD2 hS
  exact lv_iadd hx hb hd (k H locs ls hl hP hD hP2 hD2 hS)

theorem k_isub {Λ : kΛ} {pc pc' : Nat} {lv : List (Nat × Value)} {rest : List Value} {Mx Mm : jM} {x y : Int32} (hC : kOK Λ) (hd : decode cL_law pc = .ok (.isub, 1)) (hp : pc + 1 = pc')  (k : kJ Λ pc' lv (.int (x - y) :: rest) Mx Mm) : kJ Λ pc lv (.int y :: .int x :: rest) Mx Mm := by
  subst hp
  obtain ⟨p, l, e, s, m, below, meth, c, b, L, xs, D, cy, adx, adm, st⟩ := Λ
  obtain ⟨hx, hb, hml, hown, hts, hlk, hrt, hX, hbl, hK, hZ, hN, hdis⟩ := hC
  intro H locs ls hl hP hD hP2 hD2 hS
  exact lv_isub hx hb hd (k H locs ls hl hP hD hP2 hD2 hS)

theorem k_iand {Λ : kΛ} {pc pc' : Nat} {lv : List (Nat × Value)} {rest : List Value} {Mx Mm : jM} {x y : Int32} (hC : kOK Λ) (hd : decode cL_law pc = .ok (.iand, 1)) (hp : pc + 1 = pc')  (k : kJ Λ pc' lv (.int (x &&& y) :: rest) Mx Mm) : kJ Λ pc lv (.int y :: .int x :: rest) Mx Mm := by
  subst hp
  obtain ⟨p, l, e, s, m, below, meth, c, b, L, xs, D, cy, adx, adm, st⟩ := Λ
  obtain ⟨hx, hb, hml, hown, hts, hlk, hrt, hX, hbl, hK, hZ, hN, hdis⟩ := hC
  intro H locs ls hl hP hD hP2 hD2 hS
  exact lv_iand hx hb hd (k H locs ls hl hP hD hP2 hD2 hS)

theorem k_lcmp {Λ : kΛ} {pc pc' : Nat} {lv : List (Nat × Value)} {rest : List Value} {Mx Mm : jM} {x y : Int64} (hC : kOK Λ) (hd : decode cL_law pc = .ok (.lcmp, 1)) (hp : pc + 1 = pc')  (k : kJ Λ pc' lv (.int (lg_cmp x y) :: rest) Mx Mm) : kJ Λ pc lv (.long y :: .long x :: rest) Mx Mm := by
  subst hp
  obtain ⟨p, l, e, s, m, below, meth, c, b, L, xs, D, cy, adx, adm, st⟩ := Λ
  obtain ⟨hx, hb, hml, hown, hts, hlk, hrt, hX, hbl, hK, hZ, hN, hdis⟩ := hC
  intro H locs ls hl hP hD hP2 hD2 hS
  exact W.lcmp hx hb hd (k H locs ls hl hP hD hP2 hD2 hS)

theorem k_sld {Λ : kΛ} {pc pc' : Nat} {lv : List (Nat × Value)} {rest : List Value} {Mx Mm : jM} {i : Int32} (hC : kOK Λ) (hd : decode cL_law pc = .ok (.iaload, 1)) (hp : pc + 1 = pc') (hi : vp_in i (kL Λ)) (k : kJ Λ pc' lv (.int (kxs Λ i.toNatClampNeg) :: rest) Mx Mm) : kJ Λ pc lv (.int i :: .ref (kb Λ) :: rest) Mx Mm := by
  subst hp
  obtain ⟨p, l, e, s, m, below, meth, c, b, L, xs, D, cy, adx, adm, st⟩ := Λ
  obtain ⟨hx, hb, hml, hown, hts, hlk, hrt, hX, hbl, hK, hZ, hN, hdis⟩ := hC
  intro H locs ls hl hP hD hP2 hD2 hS
  exact va_sld hx hb hX hbl (Nat.not_le.mpr hbl) hS hi hd (k H locs ls hl hP hD hP2 hD2 hS)

theorem k_slen {Λ : kΛ} {pc pc' : Nat} {lv : List (Nat × Value)} {rest : List Value} {Mx Mm : jM} (hC : kOK Λ) (hd : decode cL_law pc = .ok (.arraylength, 1)) (hp : pc + 1 = pc') (k : kJ Λ pc' lv (.int (nI (kL Λ)) :: rest) Mx Mm) : kJ Λ pc lv (.ref (kb Λ) :: rest) Mx Mm := by
  subst hp
  obtain ⟨p, l, e, s, m, below, meth, c, b, L, xs, D, cy, adx, adm, st⟩ := Λ
  obtain ⟨hx, hb, hml, hown, hts, hlk, hrt, hX, hbl, hK, hZ, hN, hdis⟩ := hC
  intro H locs ls hl hP hD hP2 hD2 hS
  exact va_slen hx hb hX hbl (Nat.not_le.mpr hbl) hS hd (k H locs ls hl hP hD hP2 hD2 hS)

theorem k_icmp_eq {Λ : kΛ} {pc pc' : Nat} {lv : List (Nat × Value)} {rest : List Value} {Mx Mm : jM} {x y : Int32} {off : Int} {tgt : Nat} (hC : kOK Λ) (hd : decode cL_law pc = .ok (.if_icmp .eq off, 3)) (ht : (pc : Int) + off = (tgt : Int)) (hp : pc + 3 = pc') (kt : x = y → kJ Λ tgt lv rest Mx Mm) (kf : ¬ x = y → kJ Λ pc' lv rest Mx Mm) : kJ Λ pc lv (.int y :: .int x :: rest) Mx Mm := by
  subst hp
  obtain ⟨p, l, e, s, m, below, meth, c, b, L, xs, D, cy, adx, adm, st⟩ := Λ
  obtain ⟨hx, hb, hml, hown, hts, hlk, hrt, hX, hbl, hK, hZ, hN, hdis⟩ := hC
  intro H locs ls hl hP hD hP2 hD2 hS
  exact lv_icmp_eq hx hb hd ht (fun h => kt h H locs ls hl hP hD hP2 hD2 hS) (fun h => kf h H locs ls hl hP hD hP2 hD2 hS)

theorem k_icmp_gt {Λ : kΛ} {pc pc' : Nat} {lv : List (Nat × Value)} {rest : List Value} {Mx Mm : jM} {x y : Int32} {off : Int} {tgt : Nat} (hC : kOK Λ) (hd : decode cL_law pc = .ok (.if_icmp .gt off, 3)) (ht : (pc : Int) + off = (tgt : Int)) (hp : pc + 3 = pc') (kt : y < x → kJ Λ tgt lv rest Mx Mm) (kf : ¬ y < x → kJ Λ pc' lv rest Mx Mm) : kJ Λ pc lv (.int y :: .int x :: rest) Mx Mm := by
  subst hp
  obtain ⟨p, l, e, s, m, below, meth, c, b, L, xs, D, cy, adx, adm, st⟩ := Λ
  obtain ⟨hx, hb, hml, hown, hts, hlk, hrt, hX, hbl, hK, hZ, hN, hdis⟩ := hC
  intro H locs ls hl hP hD hP2 hD2 hS
  exact lv_icmp_gt hx hb hd ht (fun h => kt h H locs ls hl hP hD hP2 hD2 hS) (fun h => kf h H locs ls hl hP hD hP2 hD2 hS)

theorem k_if_eq {Λ : kΛ} {pc pc' : Nat} {lv : List (Nat × Value)} {rest : List Value} {Mx Mm : jM} {x : Int32} {off : Int} {tgt : Nat} (hC : kOK Λ) (hd : decode cL_law pc = .ok (.ifCond .eq off, 3)) (ht : (pc : Int) + off = (tgt : Int)) (hp : pc + 3 = pc') (kt : x = 0 → kJ Λ tgt lv rest Mx Mm) (kf : ¬ x = 0 → kJ Λ pc' lv rest Mx Mm) : kJ Λ pc lv (.int x :: rest) Mx Mm := by
  subst hp
  obtain ⟨p, l, e, s, m, below, meth, c, b, L, xs, D, cy, adx, adm, st⟩ := Λ
  obtain ⟨hx, hb, hml, hown, hts, hlk, hrt, hX, hbl, hK, hZ, hN, hdis⟩ := hC
  intro H locs ls hl hP hD hP2 hD2 hS
  exact lv_if_eq hx hb hd ht (fun h => kt h H locs ls hl hP hD hP2 hD2 hS) (fun h => kf h H locs ls hl hP hD hP2 hD2 hS)

theorem k_goto {Λ : kΛ} {pc : Nat} {lv : List (Nat × Value)} {rest : List Value} {Mx Mm : jM} {off : Int} {tgt : Nat} (hC : kOK Λ) (hd : decode cL_law pc = .ok (.goto off, 3)) (ht : (pc : Int) + off = (tgt : Int)) (k : kJ Λ tgt lv rest Mx Mm) : kJ Λ pc lv rest Mx Mm := by
  obtain ⟨p, l, e, s, m, below, meth, c, b, L, xs, D, cy, adx, adm, st⟩ := Λ
  obtain ⟨hx, hb, hml, hown, hts, hlk, hrt, hX, hbl, hK, hZ, hN, hdis⟩ := hC
  intro H locs ls hl hP hD hP2 hD2 hS
  exact lv_goto hx hb hd ht (k H locs ls hl hP hD hP2 hD2 hS)

theorem k_tabOut {Λ : kΛ} {pc : Nat} {lv : List (Nat × Value)} {rest : List Value} {Mx Mm : jM} {dflt lo hi : Int} {offs : Array Int} {len : Nat} {x : Int32} {tgt : Nat} (hC : kOK Λ) (hd : decode cL_law pc = .ok (.tableswitch dflt lo hi offs, len)) (h : x.toInt < lo ∨ hi < x.toInt) (ht : (pc : Int) + dflt = (tgt : Int)) (k : kJ Λ tgt lv rest Mx Mm) : kJ Λ pc lv (.int x :: rest) Mx Mm := by
  obtain ⟨p, l, e, s, m, below, meth, c, b, L, xs, D, cy, adx, adm, st⟩ := Λ
  obtain ⟨hx, hb, hml, hown, hts, hlk, hrt, hX, hbl, hK, hZ, hN, hdis⟩ := hC
  intro H locs ls hl hP hD hP2 hD2 hS
  exact lv_tableOut hx hb hd h ht (k H locs ls hl hP hD hP2 hD2 hS)

theorem k_tab {Λ : kΛ} {pc : Nat} {lv : List (Nat × Value)} {rest : List Value} {Mx Mm : jM} {dflt lo hi : Int} {offs : Array Int} {len : Nat} {x c9 : Int32} {off : Int} {tgt : Nat} (hC : kOK Λ) (hd : decode cL_law pc = .ok (.tableswitch dflt lo hi offs, len)) (hxc : x = c9) (h1 : ¬ c9.toInt < lo) (h2 : ¬ hi < c9.toInt) (ho : offs[(c9.toInt - lo).toNat]? = some off) (ht : (pc : Int) + off = (tgt : Int)) (k : kJ Λ tgt lv rest Mx Mm) : kJ Λ pc lv (.int x :: rest) Mx Mm := by
  subst hxc
  obtain ⟨p, l, e, s, m, below, meth, c, b, L, xs, D, cy, adx, adm, st⟩ := Λ
  obtain ⟨hx, hb, hml, hown, hts, hlk, hrt, hX, hbl, hK, hZ, hN, hdis⟩ := hC
  intro H locs ls hl hP hD hP2 hD2 hS
  exact lv_tableIn hx hb hd h1 h2 ho ht (k H locs ls hl hP hD hP2 hD2 hS)

theorem k_iinc {Λ : kΛ} {pc pc' : Nat} {lv : List (Nat × Value)} {rest : List Value} {Mx Mm : jM} {i : Nat} (q : Nat) {n : Int} {x c9 v : Int32} {lv' : List (Nat × Value)} (hC : kOK Λ) (hd : decode cL_law pc = .ok (.iinc i n, 3)) (hp : pc + 3 = pc') (hq : lv[q]? = some (i, .int x)) (hc : Int32.ofInt n = c9) (hv : x + c9 = v) (hn : i < 4) (hlv : (i, Value.int v) :: lv.filter (fun q => !(q.1 == i) && !(q.1 + 1 == i && q.2.category == 2)) = lv') (k : kJ Λ pc' lv' rest Mx Mm) : kJ Λ pc lv rest Mx Mm := by
  subst hp
  obtain ⟨p, l, e, s, m, below, meth, c, b, L, xs, D, cy, adx, adm, st⟩ := Λ
  obtain ⟨hx, hb, hml, hown, hts, hlk, hrt, hX, hbl, hK, hZ, hN, hdis⟩ := hC
  intro H locs ls hl hP hD hP2 hD2 hS
  exact lv_iinc hx hb hd hl hq (by rw [hc]; exact hv) hn hlv (fun ls hl => k H locs ls hl hP hD hP2 hD2 hS)

theorem k_sub {Λ : kΛ} {pc : Nat} {lv : List (Nat × Value)} {rest : List Value} {Mx Mm : jM} {lv' : List (Nat × Value)} (ks : List Nat) (h : lv_pick lv ks = lv') (k : kJ Λ pc lv' rest Mx Mm) : kJ Λ pc lv rest Mx Mm := by
  obtain ⟨p, l, e, s, m, below, meth, c, b, L, xs, D, cy, adx, adm, st⟩ := Λ
  intro H locs ls hl hP hD hP2 hD2 hS
  exact k H locs ls (lv_sub hl ks h) hP hD hP2 hD2 hS

theorem k_ret {Λ : kΛ} {pc : Nat} {lv : List (Nat × Value)} {Mx Mm : jM} (hC : kOK Λ) (hd : decode cL_law pc = .ok (.ireturn, 1)) : kJ Λ pc lv [.int 1] Mx Mm := by
  obtain ⟨p, l, e, s, m, below, meth, c, b, L, xs, D, cy, adx, adm, st⟩ := Λ
  obtain ⟨hx, hb, hml, hown, hts, hlk, hrt, hX, hbl, hK, hZ, hN, hdis⟩ := hC
  intro H locs ls hl hP hD hP2 hD2 hS
  exact va_forget (fun q hq => hS.2.2 q hq) (lw_ret hx hb hrt hlk hd)

theorem k_callXi {Λ : kΛ} {pc pc' : Nat} {lv : List (Nat × Value)} {rest : List Value} {Mx Mm : jM} {y : MethodName} {ccy : ByteArray} {nly : Nat} {rety : Option FieldType} {fr lc index n : Nat} {av : (Nat → Nat) → (Nat → Nat) → List Value} {Mx' : jM} {stk : List Value} (As : List Value) {r : Int32} {ci nn N : Nat} {C9 : String} {T : u_T} (hC : kOK Λ) (hd : decode cL_law pc = .ok (.invokevirtual index, 3)) (hp : pc + 3 = pc') (hM : jCi (kl Λ) y ccy nly rety fr lc (kEx Λ) RX GX av Mx r Mx') (hG : GX[0]? = some (10 + ci, nn)) (hcl : vwCl[ci]? = some (C9, T, N)) (hw : jcwV RL index C9 y ccy nly rety n) (hr : (fr + 1 ≤ room_1.frames ∧ 8 + (nly + 11) + lc ≤ room_1.locals) ∧ As.length = n ∧ (rest.map fun v => v.category).sum ≤ 8) (hav : ∀ z, av (kx Λ) z = .ref (kx Λ 0) :: As) (hst : stk = As.reverse ++ .ref (kx Λ 0) :: rest) (k : kJ Λ pc' lv (.int r :: rest) Mx' Mm) : kJ Λ pc lv stk Mx Mm := by
  subst hp
  subst hst
  obtain ⟨p, l, e, s, m, below, meth, c, b, L, xs, D, cy, adx, adm, st⟩ := Λ
  obtain ⟨hx, hb, hml, hown, hts, hlk, hrt, hX, hbl, hK, hZ, hN, hdis⟩ := hC
  intro H locs ls hl hP hD hP2 hD2 hS
  have hFc : ∀ q, va_A (jws cy adx RX Mx GX) H.size q → kA s q := fun q h => by
    rcases h with ⟨k9, e9, h9⟩ | h9
    · exact hD.2 k9 (q, e9) h9
    · exact Nat.le_trans hS.1 h9
  have hU : ∀ U : State, U.heap = H → s.WarmedH U.vm → jPre (D, cy, adx, st) RX GX Mx H.size U := fun U hUh hW => ⟨by rw [hUh], by rw [hUh]; exact hP, va_K.moved hW.alike hK, hD.weaken (fun _ _ _ _ => trivial), by rw [hUh]; exact jZ_moved hW.alike (jZ_narrow (jZ_kept hZ (fun a h1 h2 => hS.2.1 a h1 h2)) hFc), jN_warm hW hN⟩
  have hM1 := hM H.size
  have hav1 : av adx st = .ref (adx 0) :: As := hav st
  have he := jws_at (cy := cy) (ad := adx) (R := RX) (M := Mx) hG
  rw [jcell_o] at he
  obtain ⟨w1, w2, w3, w4, w5, w6, w7⟩ := hw
  have hGI : GoodIn jtb (wsV RL index C9 y (.code y ccy nly rety :: jtb)) := fun w hw => by
    rcases List.mem_append.mp hw with hw | hw
    · simp only [List.mem_cons, List.mem_nil_iff, or_false] at hw
      rcases hw with rfl | rfl | rfl | rfl
      · exact ⟨w1, jtb_good w1⟩
      · exact ⟨w2, jtb_good w2⟩
      · exact ⟨w3, jtb_good w3⟩
      · exact ⟨w4, jtb_good w4⟩
    · exact jgood w5 w hw
  refine va_calli (va_runV (As := As) (rest := rest) ⟨hx, hb, hml, hown, hts⟩ hM1 (cwV n hts hGI rfl rfl rfl ⟨w6, w7⟩ hr.1) ⟨jPre_blind, va_recv hK hP hcl he, fun U hUh hW => ⟨(congrArg List.toArray hav1).symm, hU U hUh hW⟩⟩ rfl hr.2.1 hl.1 rfl (lv_room hr.2.2) hd ⟨by decide, by decide⟩) hS (fun q _ h => hFc q h) hFc (fun r9 u t H1 locs1 ht hvm hw9 hB hz1 hk1 hS1 => ?_)
  subst hw9
  obtain ⟨hP1, hK1, hD1⟩ := hB
  rw [ht] at hP1
  have hPk : va_P D vwCl (jws cy adm RM Mm GM) H1 := hP2.kept (fun k8 q hq => by
    refine hk1 q.1 ((hP2 k8 q hq).lt) (fun h => ?_)
    rcases h with ⟨k9, e9, h9⟩ | h9
    · rw [jws_get] at hq h9
      cases hg8 : GM[k8]? with
      | none => rw [hg8] at hq; cases hq
      | some z8 =>
        cases hg9 : GX[k9]? with
        | none => rw [hg9] at h9; cases h9
        | some z9 =>
          rw [hg8] at hq
          rw [hg9] at h9
          have e1 : q.1 = adm k8 := by cases hq; rfl
          have e2 : adx k9 = q.1 := congrArg Prod.fst (Option.some.inj h9)
          exact (fun e9 => hdis _ _ (by have := (List.getElem?_eq_some_iff.mp hg9).1; simpa [GX] using this) (by have := (List.getElem?_eq_some_iff.mp hg8).1; simpa [GM] using this) e9) (e2.trans e1)
    · exact absurd ((hP2 k8 q hq).lt) (Nat.not_lt.mpr h9))
  exact k H1 locs1 ls hl hP1 (hD1.weaken (fun _ q _ h => hFc q.1 h)) hPk hD2 hS1

theorem k_callXl {Λ : kΛ} {pc pc' : Nat} {lv : List (Nat × Value)} {rest : List Value} {Mx Mm : jM} {y : MethodName} {ccy : ByteArray} {nly : Nat} {rety : Option FieldType} {fr lc index n : Nat} {av : (Nat → Nat) → (Nat → Nat) → List Value} {Mx' : jM} {stk : List Value} (As : List Value) {r : Int64} {ci nn N : Nat} {C9 : String} {T : u_T} (hC : kOK Λ) (hd : decode cL_law pc = .ok (.invokevirtual index, 3)) (hp : pc + 3 = pc') (hM : jCl (kl Λ) y ccy nly rety fr lc (kEx Λ) RX GX av Mx r Mx') (hG : GX[0]? = some (10 + ci, nn)) (hcl : vwCl[ci]? = some (C9, T, N)) (hw : jcwV RL index C9 y ccy nly rety n) (hr : (fr + 1 ≤ room_1.frames ∧ 8 + (nly + 11) + lc ≤ room_1.locals) ∧ As.length = n ∧ (rest.map fun v => v.category).sum ≤ 8) (hav : ∀ z, av (kx Λ) z = .ref (kx Λ 0) :: As) (hst : stk = As.reverse ++ .ref (kx Λ 0) :: rest) (k : kJ Λ pc' lv (.long r :: rest) Mx' Mm) : kJ Λ pc lv stk Mx Mm := by
  subst hp
  subst hst
  obtain ⟨p, l, e, s, m, below, meth, c, b, L, xs, D, cy, adx, adm, st⟩ := Λ
  obtain ⟨hx, hb, hml, hown, hts, hlk, hrt, hX, hbl, hK, hZ, hN, hdis⟩ := hC
  intro H locs ls hl hP hD hP2 hD2 hS
  have hFc : ∀ q, va_A (jws cy adx RX Mx GX) H.size q → kA s q := fun q h => by
    rcases h with ⟨k9, e9, h9⟩ | h9
    · exact hD.2 k9 (q, e9) h9
    · exact Nat.le_trans hS.1 h9
  have hU : ∀ U : State, U.heap = H → s.WarmedH U.vm → jPre (D, cy, adx, st) RX GX Mx H.size U := fun U hUh hW => ⟨by rw [hUh], by rw [hUh]; exact hP, va_K.moved hW.alike hK, hD.weaken (fun _ _ _ _ => trivial), by rw [hUh]; exact jZ_moved hW.alike (jZ_narrow (jZ_kept hZ (fun a h1 h2 => hS.2.1 a h1 h2)) hFc), jN_warm hW hN⟩
  have hM1 := hM H.size
  have hav1 : av adx st = .ref (adx 0) :: As := hav st
  have he := jws_at (cy := cy) (ad := adx) (R := RX) (M := Mx) hG
  rw [jcell_o] at he
  obtain ⟨w1, w2, w3, w4, w5, w6, w7⟩ := hw
  have hGI : GoodIn jtb (wsV RL index C9 y (.code y ccy nly rety :: jtb)) := fun w hw => by
    rcases List.mem_append.mp hw with hw | hw
    · simp only [List.mem_cons, List.mem_nil_iff, or_false] at hw
      rcases hw with rfl | rfl | rfl | rfl
      · exact ⟨w1, jtb_good w1⟩
      · exact ⟨w2, jtb_good w2⟩
      · exact ⟨w3, jtb_good w3⟩
      · exact ⟨w4, jtb_good w4⟩
    · exact jgood w5 w hw
  refine va_calll (va_runV (As := As) (rest := rest) ⟨hx, hb, hml, hown, hts⟩ hM1 (cwV n hts hGI rfl rfl rfl ⟨w6, w7⟩ hr.1) ⟨jPre_blind, va_recv hK hP hcl he, fun U hUh hW => ⟨(congrArg List.toArray hav1).symm, hU U hUh hW⟩⟩ rfl hr.2.1 hl.1 rfl (lv_room hr.2.2) hd ⟨by decide, by decide⟩) hS (fun q _ h => hFc q h) hFc (fun r9 u t H1 locs1 ht hvm hw9 hB hz1 hk1 hS1 => ?_)
  subst hw9
  obtain ⟨hP1, hK1, hD1⟩ := hB
  rw [ht] at hP1
  have hPk : va_P D vwCl (jws cy adm RM Mm GM) H1 := hP2.kept (fun k8 q hq => by
    refine hk1 q.1 ((hP2 k8 q hq).lt) (fun h => ?_)
    rcases h with ⟨k9, e9, h9⟩ | h9
    · rw [jws_get] at hq h9
      cases hg8 : GM[k8]? with
      | none => rw [hg8] at hq; cases hq
      | some z8 =>
        cases hg9 : GX[k9]? with
        | none => rw [hg9] at h9; cases h9
        | some z9 =>
          rw [hg8] at hq
          rw [hg9] at h9
          have e1 : q.1 = adm k8 := by cases hq; rfl
          have e2 : adx k9 = q.1 := congrArg Prod.fst (Option.some.inj h9)
          exact (fun e9 => hdis _ _ (by have := (List.getElem?_eq_some_iff.mp hg9).1; simpa [GX] using this) (by have := (List.getElem?_eq_some_iff.mp hg8).1; simpa [GM] using this) e9) (e2.trans e1)
    · exact absurd ((hP2 k8 q hq).lt) (Nat.not_lt.mpr h9))
  exact k H1 locs1 ls hl hP1 (hD1.weaken (fun _ q _ h => hFc q.1 h)) hPk hD2 hS1

theorem k_callMi {Λ : kΛ} {pc pc' : Nat} {lv : List (Nat × Value)} {rest : List Value} {Mx Mm : jM} {y : MethodName} {ccy : ByteArray} {nly : Nat} {rety : Option FieldType} {fr lc index n : Nat} {av : (Nat → Nat) → (Nat → Nat) → List Value} {Mm' : jM} {stk : List Value} (As : List Value) {r : Int32} {ci nn N : Nat} {C9 : String} {T : u_T} (hC : kOK Λ) (hd : decode cL_law pc = .ok (.invokevirtual index, 3)) (hp : pc + 3 = pc') (hM : jCi (kl Λ) y ccy nly rety fr lc (kEm Λ) RM GM av Mm r Mm') (hG : GM[0]? = some (10 + ci, nn)) (hcl : vwCl[ci]? = some (C9, T, N)) (hw : jcwV RL index C9 y ccy nly rety n) (hr : (fr + 1 ≤ room_1.frames ∧ 8 + (nly + 11) + lc ≤ room_1.locals) ∧ As.length = n ∧ (rest.map fun v => v.category).sum ≤ 8) (hav : ∀ z, av (km Λ) z = .ref (km Λ 0) :: As) (hst : stk = As.reverse ++ .ref (km Λ 0) :: rest) (k : kJ Λ pc' lv (.int r :: rest) Mx Mm') : kJ Λ pc lv stk Mx Mm := by
  subst hp
  subst hst
  obtain ⟨p, l, e, s, m, below, meth, c, b, L, xs, D, cy, adx, adm, st⟩ := Λ
  obtain ⟨hx, hb, hml, hown, hts, hlk, hrt, hX, hbl, hK, hZ, hN, hdis⟩ := hC
  intro H locs ls hl hP hD hP2 hD2 hS
  have hFc : ∀ q, va_A (jws cy adm RM Mm GM) H.size q → kA s q := fun q h => by
    rcases h with ⟨k9, e9, h9⟩ | h9
    · exact hD2.2 k9 (q, e9) h9
    · exact Nat.le_trans hS.1 h9
  have hU : ∀ U : State, U.heap = H → s.WarmedH U.vm → jPre (D, cy, adm, st) RM GM Mm H.size U := fun U hUh hW => ⟨by rw [hUh], by rw [hUh]; exact hP2, va_K.moved hW.alike hK, hD2.weaken (fun _ _ _ _ => trivial), by rw [hUh]; exact jZ_moved hW.alike (jZ_narrow (jZ_kept hZ (fun a h1 h2 => hS.2.1 a h1 h2)) hFc), jN_warm hW hN⟩
  have hM1 := hM H.size
  have hav1 : av adm st = .ref (adm 0) :: As := hav st
  have he := jws_at (cy := cy) (ad := adm) (R := RM) (M := Mm) hG
  rw [jcell_o] at he
  obtain ⟨w1, w2, w3, w4, w5, w6, w7⟩ := hw
  have hGI : GoodIn jtb (wsV RL index C9 y (.code y ccy nly rety :: jtb)) := fun w hw => by
    rcases List.mem_append.mp hw with hw | hw
    · simp only [List.mem_cons, List.mem_nil_iff, or_false] at hw
      rcases hw with rfl | rfl | rfl | rfl
      · exact ⟨w1, jtb_good w1⟩
      · exact ⟨w2, jtb_good w2⟩
      · exact ⟨w3, jtb_good w3⟩
      · exact ⟨w4, jtb_good w4⟩
    · exact jgood w5 w hw
  refine va_calli (va_runV (As := As) (rest := rest) ⟨hx, hb, hml, hown, hts⟩ hM1 (cwV n hts hGI rfl rfl rfl ⟨w6, w7⟩ hr.1) ⟨jPre_blind, va_recv hK hP2 hcl he, fun U hUh hW => ⟨(congrArg List.toArray hav1).symm, hU U hUh hW⟩⟩ rfl hr.2.1 hl.1 rfl (lv_room hr.2.2) hd ⟨by decide, by decide⟩) hS (fun q _ h => hFc q h) hFc (fun r9 u t H1 locs1 ht hvm hw9 hB hz1 hk1 hS1 => ?_)
  subst hw9
  obtain ⟨hP1, hK1, hD1⟩ := hB
  rw [ht] at hP1
  have hPk : va_P D vwCl (jws cy adx RX Mx GX) H1 := hP.kept (fun k8 q hq => by
    refine hk1 q.1 ((hP k8 q hq).lt) (fun h => ?_)
    rcases h with ⟨k9, e9, h9⟩ | h9
    · rw [jws_get] at hq h9
      cases hg8 : GX[k8]? with
      | none => rw [hg8] at hq; cases hq
      | some z8 =>
        cases hg9 : GM[k9]? with
        | none => rw [hg9] at h9; cases h9
        | some z9 =>
          rw [hg8] at hq
          rw [hg9] at h9
          have e1 : q.1 = adx k8 := by cases hq; rfl
          have e2 : adm k9 = q.1 := congrArg Prod.fst (Option.some.inj h9)
          exact (fun e9 => hdis _ _ (by have := (List.getElem?_eq_some_iff.mp hg8).1; simpa [GX] using this) (by have := (List.getElem?_eq_some_iff.mp hg9).1; simpa [GM] using this) e9.symm) (e2.trans e1)
    · exact absurd ((hP k8 q hq).lt) (Nat.not_lt.mpr h9))
  exact k H1 locs1 ls hl hPk hD hP1 (hD1.weaken (fun _ q _ h => hFc q.1 h)) hS1

theorem k_callMl {Λ : kΛ} {pc pc' : Nat} {lv : List (Nat × Value)} {rest : List Value} {Mx Mm : jM} {y : MethodName} {ccy : ByteArray} {nly : Nat} {rety : Option FieldType} {fr lc index n : Nat} {av : (Nat → Nat) → (Nat → Nat) → List Value} {Mm' : jM} {stk : List Value} (As : List Value) {r : Int64} {ci nn N : Nat} {C9 : String} {T : u_T} (hC : kOK Λ) (hd : decode cL_law pc = .ok (.invokevirtual index, 3)) (hp : pc + 3 = pc') (hM : jCl (kl Λ) y ccy nly rety fr lc (kEm Λ) RM GM av Mm r Mm') (hG : GM[0]? = some (10 + ci, nn)) (hcl : vwCl[ci]? = some (C9, T, N)) (hw : jcwV RL index C9 y ccy nly rety n) (hr : (fr + 1 ≤ room_1.frames ∧ 8 + (nly + 11) + lc ≤ room_1.locals) ∧ As.length = n ∧ (rest.map fun v => v.category).sum ≤ 8) (hav : ∀ z, av (km Λ) z = .ref (km Λ 0) :: As) (hst : stk = As.reverse ++ .ref (km Λ 0) :: rest) (k : kJ Λ pc' lv (.long r :: rest) Mx Mm') : kJ Λ pc lv stk Mx Mm := by
  subst hp
  subst hst
  obtain ⟨p, l, e, s, m, below, meth, c, b, L, xs, D, cy, adx, adm, st⟩ := Λ
  obtain ⟨hx, hb, hml, hown, hts, hlk, hrt, hX, hbl, hK, hZ, hN, hdis⟩ := hC
  intro H locs ls hl hP hD hP2 hD2 hS
  have hFc : ∀ q, va_A (jws cy adm RM Mm GM) H.size q → kA s q := fun q h => by
    rcases h with ⟨k9, e9, h9⟩ | h9
    · exact hD2.2 k9 (q, e9) h9
    · exact Nat.le_trans hS.1 h9
  have hU : ∀ U : State, U.heap = H → s.WarmedH U.vm → jPre (D, cy, adm, st) RM GM Mm H.size U := fun U hUh hW => ⟨by rw [hUh], by rw [hUh]; exact hP2, va_K.moved hW.alike hK, hD2.weaken (fun _ _ _ _ => trivial), by rw [hUh]; exact jZ_moved hW.alike (jZ_narrow (jZ_kept hZ (fun a h1 h2 => hS.2.1 a h1 h2)) hFc), jN_warm hW hN⟩
  have hM1 := hM H.size
  have hav1 : av adm st = .ref (adm 0) :: As := hav st
  have he := jws_at (cy := cy) (ad := adm) (R := RM) (M := Mm) hG
  rw [jcell_o] at he
  obtain ⟨w1, w2, w3, w4, w5, w6, w7⟩ := hw
  have hGI : GoodIn jtb (wsV RL index C9 y (.code y ccy nly rety :: jtb)) := fun w hw => by
    rcases List.mem_append.mp hw with hw | hw
    · simp only [List.mem_cons, List.mem_nil_iff, or_false] at hw
      rcases hw with rfl | rfl | rfl | rfl
      · exact ⟨w1, jtb_good w1⟩
      · exact ⟨w2, jtb_good w2⟩
      · exact ⟨w3, jtb_good w3⟩
      · exact ⟨w4, jtb_good w4⟩
    · exact jgood w5 w hw
  refine va_calll (va_runV (As := As) (rest := rest) ⟨hx, hb, hml, hown, hts⟩ hM1 (cwV n hts hGI rfl rfl rfl ⟨w6, w7⟩ hr.1) ⟨jPre_blind, va_recv hK hP2 hcl he, fun U hUh hW => ⟨(congrArg List.toArray hav1).symm, hU U hUh hW⟩⟩ rfl hr.2.1 hl.1 rfl (lv_room hr.2.2) hd ⟨by decide, by decide⟩) hS (fun q _ h => hFc q h) hFc (fun r9 u t H1 locs1 ht hvm hw9 hB hz1 hk1 hS1 => ?_)
  subst hw9
  obtain ⟨hP1, hK1, hD1⟩ := hB
  rw [ht] at hP1
  have hPk : va_P D vwCl (jws cy adx RX Mx GX) H1 := hP.kept (fun k8 q hq => by
    refine hk1 q.1 ((hP k8 q hq).lt) (fun h => ?_)
    rcases h with ⟨k9, e9, h9⟩ | h9
    · rw [jws_get] at hq h9
      cases hg8 : GX[k8]? with
      | none => rw [hg8] at hq; cases hq
      | some z8 =>
        cases hg9 : GM[k9]? with
        | none => rw [hg9] at h9; cases h9
        | some z9 =>
          rw [hg8] at hq
          rw [hg9] at h9
          have e1 : q.1 = adx k8 := by cases hq; rfl
          have e2 : adm k9 = q.1 := congrArg Prod.fst (Option.some.inj h9)
          exact (fun e9 => hdis _ _ (by have := (List.getElem?_eq_some_iff.mp hg8).1; simpa [GX] using this) (by have := (List.getElem?_eq_some_iff.mp hg9).1; simpa [GM] using this) e9.symm) (e2.trans e1)
    · exact absurd ((hP k8 q hq).lt) (Nat.not_lt.mpr h9))
  exact k H1 locs1 ls hl hPk hD hP1 (hD1.weaken (fun _ q _ h => hFc q.1 h)) hS1
