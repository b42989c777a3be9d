def GX : List (Nat × Nat) := [(15, 13), (14, 2), (0, 6), (4, 6), (0, 40), (0, 40), (0, 40), (0, 40), (0, 40), (0, 40), (14, 2), (0, 4), (4, 4), (0, 80), (0, 80), (0, 80), (0, 80), (13, 4), (12, 11), (0, 6), (0, 6), (0, 6), (0, 6), (0, 7), (0, 7), (0, 7), (1, 6), (0, 6), (0, 0), (12, 11), (0, 6), (0, 6), (0, 6), (0, 6), (0, 7), (0, 7), (0, 7), (1, 6), (0, 6), (10, 12), (0, 3), (0, 40), (0, 40), (0, 40), (0, 7), (3, 3), (10, 12), (0, 3), (0, 40), (0, 40), (0, 40), (0, 7), (10, 12), (0, 3), (0, 40), (0, 40), (0, 40), (0, 7), (10, 12), (0, 3), (0, 40), (0, 40), (0, 40), (0, 7), (2, 3), (11, 7), (1, 384), (1, 384), (0, 6)]
def RX (o k : Nat) : Option Nat := match o with
  | 0 => ([some 1, some 10, some 17, some 29, some 39, some 45, some 64, some 65, some 68] : List (Option Nat)).getD k none
  | 1 => ([some 2, some 3] : List (Option Nat)).getD k none
  | 3 => ([some 4, some 5, some 6, some 7, some 8, some 9] : List (Option Nat)).getD k none
  | 10 => ([some 11, some 12] : List (Option Nat)).getD k none
  | 12 => ([some 13, some 14, some 15, some 16] : List (Option Nat)).getD k none
  | 17 => ([some 18] : List (Option Nat)).getD k none
  | 18 => ([none, none, some 19, some 20, some 21, some 22, some 23, some 24, some 25, some 26, some 27] : List (Option Nat)).getD k none
  | 29 => ([none, none, some 30, some 31, some 32, some 33, some 34, some 35, some 36, some 37, some 38] : List (Option Nat)).getD k none
  | 39 => ([some 29, some 40, some 41, some 42, some 43, some 44] : List (Option Nat)).getD k none
  | 45 => ([some 46, some 52, some 58] : List (Option Nat)).getD k none
  | 46 => ([some 29, some 47, some 48, some 49, some 50, some 51] : List (Option Nat)).getD k none
  | 52 => ([some 29, some 53, some 54, some 55, some 56, some 57] : List (Option Nat)).getD k none
  | 58 => ([some 29, some 59, some 60, some 61, some 62, some 63] : List (Option Nat)).getD k none
  | 65 => ([some 29, some 66, some 67] : List (Option Nat)).getD k none
  | _ => none
theorem gx0 : GX[0]? = some (10 + 5, 13) := rfl
theorem gx1 : GX[1]? = some (10 + 4, 2) := rfl
theorem gx2 : GX[2]? = some (0, 6) := rfl
theorem gx3 : GX[3]? = some (4, 6) := rfl
theorem gx4 : GX[4]? = some (0, 40) := rfl
theorem gx5 : GX[5]? = some (0, 40) := rfl
theorem gx6 : GX[6]? = some (0, 40) := rfl
theorem gx7 : GX[7]? = some (0, 40) := rfl
theorem gx8 : GX[8]? = some (0, 40) := rfl
theorem gx9 : GX[9]? = some (0, 40) := rfl
theorem gx10 : GX[10]? = some (10 + 4, 2) := rfl
theorem gx11 : GX[11]? = some (0, 4) := rfl
theorem gx12 : GX[12]? = some (4, 4) := rfl
theorem gx13 : GX[13]? = some (0, 80) := rfl
theorem gx14 : GX[14]? = some (0, 80) := rfl
theorem gx15 : GX[15]? = some (0, 80) := rfl
theorem gx16 : GX[16]? = some (0, 80) := rfl
theorem gx17 : GX[17]? = some (10 + 3, 4) := rfl
theorem gx18 : GX[18]? = some (10 + 2, 11) := rfl
theorem gx19 : GX[19]? = some (0, 6) := rfl
theorem gx20 : GX[20]? = some (0, 6) := rfl
theorem gx21 : GX[21]? = some (0, 6) := rfl
theorem gx22 : GX[22]? = some (0, 6) := rfl
theorem gx23 : GX[23]? = some (0, 7) := rfl
theorem gx24 : GX[24]? = some (0, 7) := rfl
theorem gx25 : GX[25]? = some (0, 7) := rfl
theorem gx26 : GX[26]? = some (1, 6) := rfl
theorem gx27 : GX[27]? = some (0, 6) := rfl
theorem gx28 : GX[28]? = some (0, 0) := rfl
theorem gx29 : GX[29]? = some (10 + 2, 11) := rfl
theorem gx30 : GX[30]? = some (0, 6) := rfl
theorem gx31 : GX[31]? = some (0, 6) := rfl
theorem gx32 : GX[32]? = some (0, 6) := rfl
theorem gx33 : GX[33]? = some (0, 6) := rfl
theorem gx34 : GX[34]? = some (0, 7) := rfl
theorem gx35 : GX[35]? = some (0, 7) := rfl
theorem gx36 : GX[36]? = some (0, 7) := rfl
theorem gx37 : GX[37]? = some (1, 6) := rfl
theorem gx38 : GX[38]? = some (0, 6) := rfl
theorem gx39 : GX[39]? = some (10 + 0, 12) := rfl
theorem gx40 : GX[40]? = some (0, 3) := rfl
theorem gx41 : GX[41]? = some (0, 40) := rfl
theorem gx42 : GX[42]? = some (0, 40) := rfl
theorem gx43 : GX[43]? = some (0, 40) := rfl
theorem gx44 : GX[44]? = some (0, 7) := rfl
theorem gx45 : GX[45]? = some (3, 3) := rfl
theorem gx46 : GX[46]? = some (10 + 0, 12) := rfl
theorem gx47 : GX[47]? = some (0, 3) := rfl
theorem gx48 : GX[48]? = some (0, 40) := rfl
theorem gx49 : GX[49]? = some (0, 40) := rfl
theorem gx50 : GX[50]? = some (0, 40) := rfl
theorem gx51 : GX[51]? = some (0, 7) := rfl
theorem gx52 : GX[52]? = some (10 + 0, 12) := rfl
theorem gx53 : GX[53]? = some (0, 3) := rfl
theorem gx54 : GX[54]? = some (0, 40) := rfl
theorem gx55 : GX[55]? = some (0, 40) := rfl
theorem gx56 : GX[56]? = some (0, 40) := rfl
theorem gx57 : GX[57]? = some (0, 7) := rfl
theorem gx58 : GX[58]? = some (10 + 0, 12) := rfl
theorem gx59 : GX[59]? = some (0, 3) := rfl
theorem gx60 : GX[60]? = some (0, 40) := rfl
theorem gx61 : GX[61]? = some (0, 40) := rfl
theorem gx62 : GX[62]? = some (0, 40) := rfl
theorem gx63 : GX[63]? = some (0, 7) := rfl
theorem gx64 : GX[64]? = some (2, 3) := rfl
theorem gx65 : GX[65]? = some (10 + 1, 7) := rfl
theorem gx66 : GX[66]? = some (1, 384) := rfl
theorem gx67 : GX[67]? = some (1, 384) := rfl
theorem gx68 : GX[68]? = some (0, 6) := rfl
def GM : List (Nat × Nat) := [(16, 33), (0, 6), (0, 240), (0, 4), (0, 320), (0, 6), (0, 6), (0, 6), (0, 7), (0, 7), (0, 7), (0, 3), (0, 12), (0, 480), (0, 6), (0, 40), (0, 18), (0, 21), (2, 3), (0, 1488), (2, 24576), (0, 24576), (0, 128)]
def RM (o k : Nat) : Option Nat := match o with
  | 0 => ([some 1, some 2, some 3, some 4, some 5, some 6, some 7, none, some 8, some 9, some 10, none, some 11, some 12, some 13, none, none, none, none, none, some 14, some 15, none, some 16, none, some 17, none, some 18, some 19, some 20, some 21, some 22] : List (Option Nat)).getD k none
  | _ => none
theorem gm0 : GM[0]? = some (10 + 6, 33) := rfl
theorem gm1 : GM[1]? = some (0, 6) := rfl
theorem gm2 : GM[2]? = some (0, 240) := rfl
theorem gm3 : GM[3]? = some (0, 4) := rfl
theorem gm4 : GM[4]? = some (0, 320) := rfl
theorem gm5 : GM[5]? = some (0, 6) := rfl
theorem gm6 : GM[6]? = some (0, 6) := rfl
theorem gm7 : GM[7]? = some (0, 6) := rfl
theorem gm8 : GM[8]? = some (0, 7) := rfl
theorem gm9 : GM[9]? = some (0, 7) := rfl
theorem gm10 : GM[10]? = some (0, 7) := rfl
theorem gm11 : GM[11]? = some (0, 3) := rfl
theorem gm12 : GM[12]? = some (0, 12) := rfl
theorem gm13 : GM[13]? = some (0, 480) := rfl
theorem gm14 : GM[14]? = some (0, 6) := rfl
theorem gm15 : GM[15]? = some (0, 40) := rfl
theorem gm16 : GM[16]? = some (0, 18) := rfl
theorem gm17 : GM[17]? = some (0, 21) := rfl
theorem gm18 : GM[18]? = some (2, 3) := rfl
theorem gm19 : GM[19]? = some (0, 1488) := rfl
theorem gm20 : GM[20]? = some (2, 24576) := rfl
theorem gm21 : GM[21]? = some (0, 24576) := rfl
theorem gm22 : GM[22]? = some (0, 128) := rfl
theorem vcl0 : vwCl[0]? = some (RX0, TX0, 12) := rfl
theorem cls0 : jcls 0 RX0 TX0 12 tyX0 := ⟨rfl, fun w h => jtb_in (inX0 w h) (List.all_eq_true.mp (show (u_ws RX0 TX0 12).all goodWord = true by decide +kernel) w h), tyX0_ok, nmX0⟩
theorem vcl1 : vwCl[1]? = some (RX1, TX1, 7) := rfl
theorem cls1 : jcls 1 RX1 TX1 7 tyX1 := ⟨rfl, fun w h => jtb_in (inX1 w h) (List.all_eq_true.mp (show (u_ws RX1 TX1 7).all goodWord = true by decide +kernel) w h), tyX1_ok, nmX1⟩
theorem vcl2 : vwCl[2]? = some (RX2, TX2, 11) := rfl
theorem cls2 : jcls 2 RX2 TX2 11 tyX2 := ⟨rfl, fun w h => jtb_in (inX2 w h) (List.all_eq_true.mp (show (u_ws RX2 TX2 11).all goodWord = true by decide +kernel) w h), tyX2_ok, nmX2⟩
theorem vcl3 : vwCl[3]? = some (RX3, TX3, 4) := rfl
theorem cls3 : jcls 3 RX3 TX3 4 tyX3 := ⟨rfl, fun w h => jtb_in (inX3 w h) (List.all_eq_true.mp (show (u_ws RX3 TX3 4).all goodWord = true by decide +kernel) w h), tyX3_ok, nmX3⟩
theorem vcl4 : vwCl[4]? = some (RX4, TX4, 2) := rfl
theorem cls4 : jcls 4 RX4 TX4 2 tyX4 := ⟨rfl, fun w h => jtb_in (inX4 w h) (List.all_eq_true.mp (show (u_ws RX4 TX4 2).all goodWord = true by decide +kernel) w h), tyX4_ok, nmX4⟩
theorem vcl5 : vwCl[5]? = some (RX5, TX5, 13) := rfl
theorem cls5 : jcls 5 RX5 TX5 13 tyX5 := ⟨rfl, fun w h => jtb_in (inX5 w h) (List.all_eq_true.mp (show (u_ws RX5 TX5 13).all goodWord = true by decide +kernel) w h), tyX5_ok, nmX5⟩
theorem vcl6 : vwCl[6]? = some (RX6, TX6, 33) := rfl
theorem cls6 : jcls 6 RX6 TX6 33 tyX6 := ⟨rfl, fun w h => jtb_in (inX6 w h) (List.all_eq_true.mp (show (u_ws RX6 TX6 33).all goodWord = true by decide +kernel) w h), tyX6_ok, nmX6⟩
theorem rxc3 {i : Int32} (h : jin i 6 = true) : RX 3 i.toNatClampNeg = some (4 + i.toNatClampNeg) := by
  obtain ⟨j, hj, rfl⟩ := vp_in_of (jin_vp h) (by decide)
  rw [nI_clamp (by omega)]
  exact (show ∀ j, j < 6 → RX 3 j = some (4 + j) by decide) j hj
theorem gxc3 {i : Int32} (h : jin i 6 = true) : GX[4 + i.toNatClampNeg]? = some (0, 40) := by
  obtain ⟨j, hj, rfl⟩ := vp_in_of (jin_vp h) (by decide)
  rw [nI_clamp (by omega)]
  exact (show ∀ j, j < 6 → GX[4 + j]? = some (0, 40) by decide) j hj
theorem rxc12 {i : Int32} (h : jin i 4 = true) : RX 12 i.toNatClampNeg = some (13 + i.toNatClampNeg) := by
  obtain ⟨j, hj, rfl⟩ := vp_in_of (jin_vp h) (by decide)
  rw [nI_clamp (by omega)]
  exact (show ∀ j, j < 4 → RX 12 j = some (13 + j) by decide) j hj
theorem gxc12 {i : Int32} (h : jin i 4 = true) : GX[13 + i.toNatClampNeg]? = some (0, 80) := by
  obtain ⟨j, hj, rfl⟩ := vp_in_of (jin_vp h) (by decide)
  rw [nI_clamp (by omega)]
  exact (show ∀ j, j < 4 → GX[13 + j]? = some (0, 80) by decide) j hj
theorem jov {o : Nat} {x : Nat × Nat} (h : GX[o]? = some x) : o < 2 ^ 31 := by
  have h1 := (List.getElem?_eq_some_iff.mp h).1
  have h2 : GX.length = 69 := rfl
  omega
theorem j_iinc' {Γ : jG} {G : List (Nat × Nat)} {Rf : Nat → Nat → Option Nat} {cc : ByteArray} {nl : Nat} {own : String} {ret : Option FieldType} {rm : Room} {pc pc' : Nat} {lv : List (Nat × Value)} {rest : List Value} {M : jM} {Q : State → Prop} {i : Nat} (q : Nat) {n : Int} {x c v : Int32} {lv' : List (Nat × Value)} (hC : jOK Γ cc nl own ret rm) (hd : decode cc pc = .ok (.iinc i n, 3)) (hp : pc + 3 = pc') (hq : lv[q]? = some (i, .int x)) (hc : Int32.ofInt n = c) (hv : x + c = v) (hn : i < nl) (hlv : (i, Value.int v) :: lv.filter (fun q => !(q.1 == i) && !(q.1 + 1 == i && q.2.category == 2)) = lv') (k : jJ Γ G Rf pc' lv' rest M Q) : jJ Γ G Rf pc lv rest M Q := j_iinc q hC hd hp hq (by rw [hc]; exact hv) hn hlv k
section JSC
variable {p : Program} {l : Launch} {e : Env} {R : Room} {s : State} {m : MethodId} {args : Array Value} {below : List Frame} {meth : Method} {c : Code} {H : Heap} {locs : List Loc} {cells slots : Nat} {Q : State → Prop}
/-- the first N ints of an int array that no cell of the world is come to the head of one that is -/
theorem w_scopy {cc : ByteArray} {pc : Nat} {ls : Array Slot} {rest : List Value} {D : va_G} {cl : List vw_C} {A : Nat → Prop} {a : Nat} {tys : List (ClassId × FieldType)} {ws : va_W} (hx : p.tables.exec = Jvm.exec) (hb : c.code = cc) (hml : c.maxLocals = ls.size) {own : String} {index : Nat} (hown : s.vm.findClass own = some m.cls) (w1 : (Cond.methodLink own index arraycopyName).before args s = true) (w2 : (Cond.native arraycopyName).before args s = true) (w3 : (Cond.static arraycopyName).before args s = true) (w4 : (Cond.initialized "java/lang/System").before args s = true)
    (hK : va_K D cl tys s) (hP : va_P D cl ws H) (hD : va_D A ws) (hS : va_S A s.heap H locs) {b0 N0 N n1 : Nat} {f g : Nat → Int32} (hT : va_T .int b0 N0 (fun j => .int (f j)) A s s.heap) (q1 t1 : Nat) {c1 : ClassId} (ha : ws[q1]? = some (a, .inl (c1, n1, .inl g))) (ht : tys[t1]? = some (c1, .int)) {n : Int32} (h3 : ¬ n < 0) (hN : n.toNatClampNeg = N) (h4 : N ≤ N0) (h5 : N ≤ n1)
    (hfr : 1 ≤ R.frames) (hlo : (rest.map fun v => v.category).sum + (nativeFrameWords "java/lang/System" "arraycopy" 5 + 11) ≤ R.locals) (hd : decode cc pc = .ok (.invokestatic index, 3))
    (kk : ∀ (H1 : Heap) (locs1 : List Loc), va_P D cl (ws.set q1 (a, .inl (c1, n1, .inl (va_cpy f g 0 0 N)))) H1 → va_D A (ws.set q1 (a, .inl (c1, n1, .inl (va_cpy f g 0 0 N)))) → va_S A s.heap H1 locs1 → W p l e R s m args below meth c H1 locs1 cells slots Q (F0 m (pc + 3) ls rest)) : W p l e R s m args below meth c H locs cells slots Q (F0 m pc ls (.int n :: .int 0 :: .ref a :: .int 0 :: .ref b0 :: rest)) := by
  subst hN
  have hnn : n.toInt = (n.toNatClampNeg : Int) := by
    have h0 : (0 : Int) ≤ n.toInt := by simpa using Int32.le_iff_toInt_le.mp (Int32.not_lt.mp h3)
    show n.toInt = ((n.toInt.toNat : Nat) : Int)
    omega
  obtain ⟨scr, t1', t2, t3, t4, -, t6, t7⟩ := hT
  have hsrc : H[b0]? = some scr := by rw [hS.2.1 b0 (Array.getElem?_eq_some_iff.mp t1').1 t7]; exact t1'
  have hdst : H[a]? = some (vp_cell c1 (n1, .inl g)) := hP q1 _ ha
  have hlt : a < H.size := (Array.getElem?_eq_some_iff.mp hdst).1
  obtain ⟨u1, k0, u2, cm0, u3⟩ := t2
  obtain ⟨-, k1, u4, cm1, u5⟩ := (hK.2 t1 _ ht).1 n1 (fun j => .int (g j))
  intro T hTh X
  obtain ⟨vm', X', step⟩ := X.arraycopy hx hown w1 w2 w3 w4 (src := b0) (dst := a) (cs := scr) (cd := vp_cell c1 (n1, .inl g)) (srcPos := 0) (destPos := 0) (n := n) (by rw [hTh]; exact hsrc) (by rw [hTh]; exact hdst)
    u1 (fun _ h => by cases h) t3 (fun h => by cases h) u2 u4 u3 u5 (by simp [refKind]) (by decide) (by decide) h3
    (by rw [hnn]; simp; omega)
    (by rw [hnn]; show ¬ _ > ((arrV c1 n1 (fun j => .int (g j))).slots.size : Int); rw [arrV_size]; simp; omega)
    (fun vm₁ _ i hi => by
      have e9 : scr.slots.getD ((0 : Int32).toNatClampNeg + i) .null = .int (f ((0 : Int32).toNatClampNeg + i)) := by
        rw [Array.getD_eq_getD_getElem?, t6 _ (by have : (0 : Int32).toNatClampNeg = 0 := rfl; omega)]
        rfl
      refine ⟨?_, ?_⟩
      · rw [e9]; rfl
      · rw [e9]; exact trivial)
    (g := F0 m pc ls (.int n :: .int 0 :: .ref a :: .int 0 :: .ref b0 :: rest)) rfl (by rw [hml]) (rest := rest) rfl (by rw [hb]; exact hd) hfr (by show 2 * 0 + _ + _ ≤ _; omega)
  have e1 : copied scr (vp_cell c1 (n1, .inl g)) 0 0 n = vp_cell c1 (n1, .inl (va_cpy f g 0 0 n.toNatClampNeg)) := va_copiedX (fun z => .int z) scr c1 f g t6 (sp := 0) (by omega)
  rw [e1] at X' step
  generalize hC : vp_cell c1 (n1, .inl (va_cpy f g 0 0 n.toNatClampNeg)) = C9 at X' step
  have hheap : ((T.setVm vm').setCell a C9).heap = H.setIfInBounds a C9 := by rw [← hTh]; rfl
  have oq : ∀ q : Nat, q ≠ a → (H.setIfInBounds a C9)[q]? = H[q]? := fun q hq => by simp [Array.getElem?_setIfInBounds, Ne.symm hq]
  have hat : (H.setIfInBounds a C9)[a]? = some (vp_cell c1 (n1, .inl (va_cpy f g 0 0 n.toNatClampNeg))) := by rw [hC]; simp [Array.getElem?_setIfInBounds, hlt]
  obtain ⟨t, a1, b1⟩ := kk (H.setIfInBounds a C9) _ (hP.set hD ha hat oq) (hD.set ha) ⟨by simp; exact hS.1, fun q g1 g2 => by
      rw [oq q (fun e => g2 (by rw [e]; exact hD.2 q1 _ ha))]
      exact hS.2.1 q g1 g2, fun q hq => by
      rcases List.mem_append.mp hq with h | h
      · exact hS.2.2 q h
      · obtain ⟨z, -, hz⟩ := List.mem_map.mp h
        rw [← hz]
        exact hD.2 q1 _ ha⟩ _ hheap X'
  exact ⟨t, step t a1, b1⟩
end JSC
theorem j_scopy {Γ : jG} {G : List (Nat × Nat)} {Rf : Nat → Nat → Option Nat} {cc : ByteArray} {nl : Nat} {own : String} {ret : Option FieldType} {rm : Room} {pc pc' : Nat} {lv : List (Nat × Value)} {rest : List Value} {M : jM} {Q : State → Prop} (j : Nat) {o2 n2 index N : Nat} {n : Int32} {M2 : jM} (hC : jOK Γ cc nl own ret rm) (hd : decode cc pc = .ok (.invokestatic index, 3)) (hp : pc + 3 = pc') (hw : Cond.methodLink own index arraycopyName ∈ jtb ∧ Cond.native arraycopyName ∈ jtb ∧ Cond.static arraycopyName ∈ jtb ∧ Cond.initialized "java/lang/System" ∈ jtb) (hG2 : G[o2]? = some (0, n2)) (hj : j < 3) (hk : ¬ n < 0 ∧ n.toNatClampNeg = N ∧ N ≤ jslen j ∧ N ≤ n2) (hr : 1 ≤ rm.frames ∧ (rest.map fun v => v.category).sum + (nativeFrameWords "java/lang/System" "arraycopy" 5 + 11) ≤ rm.locals) (hM2 : jcp M (fun q => (jsI j).getD q 0) 0 o2 0 N = M2) (k : jJ Γ G Rf pc' lv rest M2 Q) : jJ Γ G Rf pc lv (.int n :: .int 0 :: .ref (jad Γ o2) :: .int 0 :: .ref (jst Γ j) :: rest) M Q := by
  subst hp
  subst hM2
  obtain ⟨p, l, e, R, s, m, args, below, meth, c, nL, D, cy, ad, st, A, kc, ks⟩ := Γ
  obtain ⟨hx, hb, hml, hown, hts, hR, hlk, hrt, hK, hZ, hN, hA, hnl, hkc, hks⟩ := hC
  intro H locs ls hl hP hD hS
  have he2 := jws_at (cy := cy) (ad := ad) (R := Rf) (M := M) hG2
  obtain ⟨w1, w2, w3, w4⟩ := hw
  obtain ⟨c1, c2, c3, c4⟩ := hk
  subst hR
  have hT := (hZ j (by omega)).2
  have e7 : jsty j = .int := by rcases (show j = 0 ∨ j = 1 ∨ j = 2 by omega) with rfl | rfl | rfl <;> rfl
  have e8 : jsv j = fun q => Value.int ((jsI j).getD q 0) := by funext q; simp [jsv, hj]
  rw [e7, e8] at hT
  refine w_scopy hx hb (by rw [hml]; exact hl.1.symm) hown (hts _ w1) (hts _ w2) (hts _ w3) (hts _ w4) hK hP hD hS hT o2 0 he2 rfl c1 c2 c3 c4 hr.1 hr.2 hd (fun H1 locs1 hP1 hD1 hS1 => ?_)
  have e9 : (jws cy ad Rf M G).set o2 (ad o2, .inl (cy 0, n2, .inl (va_cpy (fun q => (jsI j).getD q 0) (gi M o2) 0 0 N))) = jws cy ad Rf (jcp M (fun q => (jsI j).getD q 0) 0 o2 0 N) G := jws_set hG2 (by
    rw [jcell_0]
    congr 4
    funext q
    simp [va_cpy, gi_jcp]) (fun a b h => by simp [gi_jcp, h]) (fun a b h => by simp [gl_jcp])
  have hP2 : va_P D vwCl (jws cy ad Rf (jcp M (fun q => (jsI j).getD q 0) 0 o2 0 N) G) H1 := by rw [← e9]; exact hP1
  have hD2 : va_D A (jws cy ad Rf (jcp M (fun q => (jsI j).getD q 0) 0 o2 0 N) G) := by rw [← e9]; exact hD1
  exact k H1 locs1 ls hl hP2 hD2 hS1

