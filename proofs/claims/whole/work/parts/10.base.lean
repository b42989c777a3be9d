/-! the memory that the contracts speak of: ints and longs by the number of a cell and the place in it; which cells there are (G: kind and size) and which refers to which (R) is fixed once they are made -/
abbrev jM : Type := (Nat → Nat → Int32) × (Nat → Nat → Int64)
def gi (M : jM) (o k : Nat) : Int32 := M.1 o k
def gl (M : jM) (o k : Nat) : Int64 := M.2 o k
def si (M : jM) (o k : Nat) (v : Int32) : jM := (fun a b => if a = o ∧ b = k then v else M.1 a b, M.2)
def sl (M : jM) (o k : Nat) (v : Int64) : jM := (M.1, fun a b => if a = o ∧ b = k then v else M.2 a b)
/-- n ints of the row f from sp on come to cell b from dp on -/
def jcp (M : jM) (f : Nat → Int32) (sp b dp n : Nat) : jM := (fun o k => if o = b ∧ dp ≤ k ∧ k < dp + n then f (sp + (k - dp)) else M.1 o k, M.2)
def jin (i : Int32) (n : Nat) : Bool := decide (¬ i < 0) && decide (i.toNatClampNeg < n)
theorem jin_vp {i : Int32} {n : Nat} (h : jin i n = true) : vp_in i n := by
  unfold jin at h
  rw [Bool.and_eq_true, decide_eq_true_eq, decide_eq_true_eq] at h
  intro q
  rcases q with q | q
  · exact h.1 q
  · omega
def jlet {α β : Type} (a : α) (f : α → Option β) : Option β := f a
theorem jlet_s {α β : Type} {a : α} {f : α → Option β} {r : β} (h : jlet a f = some r) : ∃ v, a = v ∧ f v = some r := ⟨a, rfl, h⟩
theorem jbd_s {α β : Type} {a : Option α} {f : α → Option β} {r : β} (h : a.bind f = some r) : ∃ v, a = some v ∧ f v = some r := by
  cases a with
  | none => cases h
  | some v => exact ⟨v, rfl, h⟩
theorem jgd_s {β : Type} {c : Prop} [Decidable c] {a : Option β} {r : β} (h : (if c then a else none) = some r) : c ∧ a = some r := by
  by_cases hc : c
  · rw [if_pos hc] at h; exact ⟨hc, h⟩
  · rw [if_neg hc] at h; cases h
theorem jif_t {β : Type} {c : Prop} [Decidable c] {a b : Option β} {r : Option β} (hc : c) (h : (if c then a else b) = r) : a = r := by rw [if_pos hc] at h; exact h
theorem jif_f {β : Type} {c : Prop} [Decidable c] {a b : Option β} {r : Option β} (hc : ¬ c) (h : (if c then a else b) = r) : b = r := by rw [if_neg hc] at h; exact h
/-! field kinds by class: 0 int, 1 long, 2 a fixed reference, 3 a reference by its number -/
def jft (c : Nat) : List Nat := match c with
  | 0 => [2, 2, 2, 2, 2, 2, 0, 0, 0, 0, 0, 0]
  | 1 => [2, 2, 2, 0, 0, 0, 0]
  | 2 => [0, 0, 2, 2, 2, 2, 2, 2, 2, 2, 2]
  | 3 => [2, 3, 0, 0]
  | 4 => [2, 2]
  | 5 => [2, 2, 2, 2, 2, 2, 2, 2, 2, 0, 0, 1, 1]
  | _ => [2, 2, 2, 2, 2, 2, 2, 0, 2, 2, 2, 0, 2, 2, 2, 0, 0, 1, 1, 0, 2, 2, 0, 2, 0, 2, 0, 2, 2, 2, 2, 2, 1]
def jval (ad : Nat → Nat) (R : Nat → Nat → Option Nat) (M : jM) (o k t : Nat) : Value :=
  if t = 0 then .int (gi M o k) else if t = 1 then .long (gl M o k) else if t = 2 then va_rf ((R o k).map ad) else if gi M o k < 0 then .null else .ref (ad (gi M o k).toNatClampNeg)
def jfs (ad : Nat → Nat) (R : Nat → Nat → Option Nat) (M : jM) (o : Nat) (ts : List Nat) : List Value := ts.mapIdx (fun k t => jval ad R M o k t)
def jcell (cy : Nat → ClassId) (ad : Nat → Nat) (R : Nat → Nat → Option Nat) (M : jM) (o : Nat) (h : Nat × Nat) : va_E :=
  if h.1 = 0 then .inl (cy 0, h.2, .inl (gi M o))
  else if h.1 = 1 then .inl (cy 1, h.2, .inr (.inl (gl M o)))
  else if h.1 = 2 then .inl (cy 2, h.2, .inl (gi M o))
  else if h.1 = 3 then .inl (cy 3, h.2, .inr (.inr (.inr (.inr (fun i => (R o i).map ad)))))
  else if h.1 = 4 then .inl (cy 4, h.2, .inr (.inr (.inr (.inr (fun i => (R o i).map ad)))))
  else .inr (h.1 - 10, jfs ad R M o (jft (h.1 - 10)))
def jws (cy : Nat → ClassId) (ad : Nat → Nat) (R : Nat → Nat → Option Nat) (M : jM) (G : List (Nat × Nat)) : va_W := G.mapIdx (fun o h => (ad o, jcell cy ad R M o h))
theorem jws_at {cy : Nat → ClassId} {ad : Nat → Nat} {R : Nat → Nat → Option Nat} {M : jM} {G : List (Nat × Nat)} {o : Nat} {h : Nat × Nat} (hG : G[o]? = some h) : (jws cy ad R M G)[o]? = some (ad o, jcell cy ad R M o h) := by
  simp [jws, List.getElem?_mapIdx, hG]
theorem jcell_congr {cy : Nat → ClassId} {ad : Nat → Nat} {R : Nat → Nat → Option Nat} {M M' : jM} {i : Nat} (h : Nat × Nat) (e1 : gi M' i = gi M i) (e2 : gl M' i = gl M i) : jcell cy ad R M' i h = jcell cy ad R M i h := by
  have e3 : ∀ k t, jval ad R M' i k t = jval ad R M i k t := fun k t => by unfold jval; rw [e1, e2]
  have e4 : ∀ ts, jfs ad R M' i ts = jfs ad R M i ts := fun ts => by unfold jfs; exact congrArg (fun f => List.mapIdx f ts) (funext fun k => funext fun t => e3 k t)
  unfold jcell
  rw [e1, e2, e4]
theorem jws_len {cy : Nat → ClassId} {ad : Nat → Nat} {R : Nat → Nat → Option Nat} {M : jM} {G : List (Nat × Nat)} : (jws cy ad R M G).length = G.length := by unfold jws; exact List.length_mapIdx
theorem jws_get {cy : Nat → ClassId} {ad : Nat → Nat} {R : Nat → Nat → Option Nat} {M : jM} {G : List (Nat × Nat)} (i : Nat) : (jws cy ad R M G)[i]? = G[i]?.map (fun h => (ad i, jcell cy ad R M i h)) := by unfold jws; exact List.getElem?_mapIdx
theorem jws_set {cy : Nat → ClassId} {ad : Nat → Nat} {R : Nat → Nat → Option Nat} {M M' : jM} {G : List (Nat × Nat)} {o : Nat} {h : Nat × Nat} {e : va_E} (hG : G[o]? = some h) (he : e = jcell cy ad R M' o h) (hi : ∀ a k, a ≠ o → gi M' a k = gi M a k) (hl : ∀ a k, a ≠ o → gl M' a k = gl M a k) : (jws cy ad R M G).set o (ad o, e) = jws cy ad R M' G := by
  apply List.ext_getElem?
  intro i
  by_cases hio : i = o
  · have hlt : o < (jws cy ad R M G).length := by rw [jws_len]; exact (List.getElem?_eq_some_iff.mp hG).1
    rw [hio, List.getElem?_set_self hlt, jws_at hG, he]
  · rw [List.getElem?_set_ne (Ne.symm hio), jws_get, jws_get]
    have e1 : gi M' i = gi M i := funext fun k => hi i k hio
    have e2 : gl M' i = gl M i := funext fun k => hl i k hio
    exact congrArg (fun f => G[i]?.map f) (funext fun h2 => congrArg (Prod.mk (ad i)) (jcell_congr h2 e1 e2).symm)
theorem gi_si (M : jM) (o k : Nat) (v : Int32) (a b : Nat) : gi (si M o k v) a b = if a = o ∧ b = k then v else gi M a b := rfl
theorem gi_sl (M : jM) (o k : Nat) (v : Int64) (a b : Nat) : gi (sl M o k v) a b = gi M a b := rfl
theorem gl_sl (M : jM) (o k : Nat) (v : Int64) (a b : Nat) : gl (sl M o k v) a b = if a = o ∧ b = k then v else gl M a b := rfl
theorem gl_si (M : jM) (o k : Nat) (v : Int32) (a b : Nat) : gl (si M o k v) a b = gl M a b := rfl
theorem gi_jcp (M : jM) (f : Nat → Int32) (sp b dp n o k : Nat) : gi (jcp M f sp b dp n) o k = if o = b ∧ dp ≤ k ∧ k < dp + n then f (sp + (k - dp)) else gi M o k := rfl
theorem gl_jcp (M : jM) (f : Nat → Int32) (sp b dp n o k : Nat) : gl (jcp M f sp b dp n) o k = gl M o k := rfl
theorem jfs_si {ad : Nat → Nat} {R : Nat → Nat → Option Nat} {M : jM} {o k : Nat} {v : Int32} {ts : List Nat} {w : Value} (hk : ts[k]? = some 0 ∧ w = .int v ∨ ts[k]? = some 3 ∧ w = (if v < 0 then .null else .ref (ad v.toNatClampNeg))) : (jfs ad R M o ts).set k w = jfs ad R (si M o k v) o ts := by
  apply List.ext_getElem?
  intro i
  by_cases hik : i = k
  · subst hik
    have hlt : i < (jfs ad R M o ts).length := by
      rcases hk with ⟨h, -⟩ | ⟨h, -⟩
      · have := (List.getElem?_eq_some_iff.mp h).1; simpa [jfs] using this
      · have := (List.getElem?_eq_some_iff.mp h).1; simpa [jfs] using this
    rw [List.getElem?_set_self hlt]
    rcases hk with ⟨h, rfl⟩ | ⟨h, rfl⟩ <;> simp [jfs, List.getElem?_mapIdx, h, jval, gi_si]
  · rw [List.getElem?_set_ne (Ne.symm hik)]
    simp [jfs, List.getElem?_mapIdx, jval, gi_si, gl_si, hik]
theorem jfs_sl {ad : Nat → Nat} {R : Nat → Nat → Option Nat} {M : jM} {o k : Nat} {v : Int64} {ts : List Nat} (hk : ts[k]? = some 1) : (jfs ad R M o ts).set k (.long v) = jfs ad R (sl M o k v) o ts := by
  apply List.ext_getElem?
  intro i
  by_cases hik : i = k
  · subst hik
    have hlt : i < (jfs ad R M o ts).length := by
      have := (List.getElem?_eq_some_iff.mp hk).1; simpa [jfs] using this
    rw [List.getElem?_set_self hlt]
    simp [jfs, List.getElem?_mapIdx, hk, jval, gl_sl]
  · rw [List.getElem?_set_ne (Ne.symm hik)]
    have e9 : ∀ t, jval ad R M o i t = jval ad R (sl M o k v) o i t := fun t => by
      have e8 : gl (sl M o k v) o i = gl M o i := by simp [gl_sl, hik]
      unfold jval
      rw [e8]
      rfl
    simp only [jfs, List.getElem?_mapIdx, e9]
/-! the arrays' classes, the statics, the words among nest mates -/
def jtys (cy : Nat → ClassId) : List (ClassId × FieldType) := [(cy 0, .int), (cy 1, .long), (cy 2, .boolean), (cy 3, .object "HoursByPost$Course"), (cy 4, .array .int)]
def jsn (j : Nat) : String := match j with
  | 0 => "FIRST_ROUTES"
  | 1 => "KIND_SIGNS"
  | 2 => "LIGHT_SIGNS"
  | 3 => "SETS_OF"
  | _ => "SETS_WITH"
def jsd (j : Nat) : String := match j with
  | 0 => "[I"
  | 1 => "[I"
  | 2 => "[I"
  | 3 => "[J"
  | _ => "[J"
def jsty (j : Nat) : FieldType := match j with
  | 0 => .int
  | 1 => .int
  | 2 => .int
  | 3 => .long
  | _ => .long
def jslen (j : Nat) : Nat := match j with
  | 0 => 3
  | 1 => 6
  | 2 => 3
  | 3 => 7
  | _ => 6
def jsI (j : Nat) : List Int32 := match j with
  | 0 => [1, 2, 4]
  | 1 => [100, 109, 115, 108, 102, 112]
  | _ => [100, 110, 101]
def jsL (j : Nat) : List Int64 := match j with
  | 0 => []
  | 1 => []
  | 2 => []
  | 3 => [(1), (4295033110), (282668995843688), (78274679833913472), (1614655367130677248), (7530159316599308288), (-9223372036854775808)]
  | _ => [(-6148914691236517206), (-3689348814741910324), (-1085102592571150096), (-71777214294589696), (-281470681808896), (-4294967296)]
def jsv (j k : Nat) : Value := if j < 3 then .int ((jsI j).getD k 0) else .long ((jsL j).getD k 0)
def jZ (st : Nat → Nat) (A : Nat → Prop) (U : State) (H : Heap) : Prop := ∀ j, j < 5 → va_Z "HoursByPost" (jsn j) (jsd j) (.ref (st j)) A U H ∧ va_T (jsty j) (st j) (jslen j) (jsv j) A U H
def jnw : List Cond := [(Jvm.Cond.methodLinkNest "HoursByPost" (23 : Nat) ({ cls := "HoursByPost$Reading", name := "<init>", desc := "()V" } : Jvm.MethodName) "HoursByPost"), (Jvm.Cond.methodLinkNest "HoursByPost$Reading" (11 : Nat) ({ cls := "HoursByPost$Plan", name := "<init>", desc := "()V" } : Jvm.MethodName) "HoursByPost"), (Jvm.Cond.methodLinkNest "HoursByPost" (30 : Nat) ({ cls := "HoursByPost$Plan", name := "<init>", desc := "()V" } : Jvm.MethodName) "HoursByPost"), (Jvm.Cond.fieldLinkNest "HoursByPost$Course" (50 : Nat) "HoursByPost" "FIRST_ROUTES" "[I" "HoursByPost"), (Jvm.Cond.fieldLinkNest "HoursByPost$Reading" (60 : Nat) "HoursByPost" "KIND_SIGNS" "[I" "HoursByPost"), (Jvm.Cond.fieldLinkNest "HoursByPost$Reading" (71 : Nat) "HoursByPost" "LIGHT_SIGNS" "[I" "HoursByPost"), (Jvm.Cond.methodLinkNest "HoursByPost$Reading" (78 : Nat) ({ cls := "HoursByPost", name := "isIn", desc := "(II)Z" } : Jvm.MethodName) "HoursByPost"), (Jvm.Cond.methodLinkNest "HoursByPost$Plan" (65 : Nat) ({ cls := "HoursByPost", name := "isIn", desc := "(II)Z" } : Jvm.MethodName) "HoursByPost"), (Jvm.Cond.methodLinkNest "HoursByPost$Course" (113 : Nat) ({ cls := "HoursByPost", name := "isIn", desc := "(II)Z" } : Jvm.MethodName) "HoursByPost"), (Jvm.Cond.methodLinkNest "HoursByPost$Orders" (55 : Nat) ({ cls := "HoursByPost", name := "isIn", desc := "(II)Z" } : Jvm.MethodName) "HoursByPost"), (Jvm.Cond.fieldLinkNest "HoursByPost$Orders" (111 : Nat) "HoursByPost" "SETS_OF" "[J" "HoursByPost"), (Jvm.Cond.fieldLinkNest "HoursByPost$Orders" (108 : Nat) "HoursByPost" "SETS_WITH" "[J" "HoursByPost")]
theorem jnw_ok : jnw.all (fun w => w.onTables) = true := by decide +kernel
theorem jnw_in : ∀ w ∈ jnw, w ∈ lw_tbl := by decide +kernel
theorem jN_warm {s U : State} (hW : s.WarmedH U.vm) (h : ∀ w ∈ jnw, va_Nw w s) : ∀ w ∈ jnw, va_Nw w U := by
  simp only [jnw, List.forall_mem_cons] at h ⊢
  obtain ⟨h0, h1, h2, h3, h4, h5, h6, h7, h8, h9, h10, h11, -⟩ := h
  exact ⟨va_Nw.warmM hW h0, va_Nw.warmM hW h1, va_Nw.warmM hW h2, va_Nw.warmF hW h3, va_Nw.warmF hW h4, va_Nw.warmF hW h5, va_Nw.warmM hW h6, va_Nw.warmM hW h7, va_Nw.warmM hW h8, va_Nw.warmM hW h9, va_Nw.warmF hW h10, va_Nw.warmF hW h11, fun _ h => absurd h List.not_mem_nil⟩
theorem jZ_moved {st : Nat → Nat} {A : Nat → Prop} {u U : State} {H : Heap} (hvm : u.vm.Alike U.vm) (h : jZ st A u H) : jZ st A U H := fun j hj => ⟨(h j hj).1.moved hvm, (h j hj).2.moved hvm⟩
theorem jZ_kept {st : Nat → Nat} {A : Nat → Prop} {U : State} {H H1 : Heap} (h : jZ st A U H) (hq : ∀ a : Nat, a < H.size → ¬ A a → H1[a]? = H[a]?) : jZ st A U H1 := fun j hj => ⟨(h j hj).1.kept hq, (h j hj).2.kept hq⟩
theorem jZ_narrow {st : Nat → Nat} {A B : Nat → Prop} {U : State} {H : Heap} (h : jZ st A U H) (hAB : ∀ q, B q → A q) : jZ st B U H := fun j hj => ⟨(h j hj).1.narrow hAB, (h j hj).2.narrow hAB⟩
def jN (U : State) : Prop := ∀ w ∈ jnw, va_Nw w U
theorem jN_same {u U : State} (h : u.vm = U.vm) (hN : jN u) : jN U := fun w hw => va_Nw.same (List.all_eq_true.mp jnw_ok w hw) h (hN w hw)
/-! the machine at a frame: everything that stays the same while a method runs -/
abbrev jG : Type := Program × Launch × Env × Room × State × MethodId × Array Value × List Frame × Method × Code × Nat × va_G × (Nat → ClassId) × (Nat → Nat) × (Nat → Nat) × (Nat → Prop) × Nat × Nat
def jOK (Γ : jG) (cc : ByteArray) (nl : Nat) (own : String) (ret : Option FieldType) (rm : Room) : Prop := match Γ with
  | (p, l, e, R, s, m, args, below, meth, c, nL, D, cy, ad, st, A, kc, ks) => p.tables.exec = Jvm.exec ∧ c.code = cc ∧ c.maxLocals = nL ∧ s.vm.findClass own = some m.cls ∧ (∀ w ∈ jtb, w.before args s = true) ∧ R = rm ∧ meth.locks = false ∧ meth.sig.returnType = ret ∧ va_K D vwCl (jtys cy) s ∧ jZ st A s s.heap ∧ jN s ∧ (∀ q, s.heap.size ≤ q → A q) ∧ nL = nl ∧ kc ≤ rm.cells ∧ ks ≤ rm.slots
def jJ (Γ : jG) (G : List (Nat × Nat)) (Rf : Nat → Nat → Option Nat) (pc : Nat) (lv : List (Nat × Value)) (stk : List Value) (M : jM) (Q : State → Prop) : Prop := match Γ with
  | (p, l, e, R, s, m, args, below, meth, c, nL, D, cy, ad, st, A, kc, ks) => ∀ (H : Heap) (locs : List Loc) (ls : Array Slot), lv_has ls nL lv → va_P D vwCl (jws cy ad Rf M G) H → va_D A (jws cy ad Rf M G) → va_S A s.heap H locs → W p l e R s m args below meth c H locs kc ks Q (F0 m pc ls stk)
def jad (Γ : jG) : Nat → Nat := match Γ with
  | (p, l, e, R, s, m, args, below, meth, c, nL, D, cy, ad, st, A, kc, ks) => ad
def jst (Γ : jG) : Nat → Nat := match Γ with
  | (p, l, e, R, s, m, args, below, meth, c, nL, D, cy, ad, st, A, kc, ks) => st
def jnl (Γ : jG) : Nat := match Γ with
  | (p, l, e, R, s, m, args, below, meth, c, nL, D, cy, ad, st, A, kc, ks) => nL
