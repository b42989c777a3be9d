/-! steps -/
def app (c : Nat → Nat → Nat) (k h d : Nat) : Nat → Nat → Nat := fun a z => if a = 1 ∧ z = 0 then c 1 0 + 1 else if a = 2 ∧ z = c 1 0 then k else if a = 3 ∧ z = c 1 0 then h else if a = 4 ∧ z = c 1 0 then d else c a z
def tkA (M N : jM) (n : Nat) (a1 a2 a3 : Int32) : Prop := ∀ z, gi N 41 z = (if z = n then a1 else gi M 41 z) ∧ gi N 42 z = (if z = n then a2 else gi M 42 z) ∧ gi N 43 z = (if z = n then a3 else gi M 43 z)
section JJ
variable {q c : Nat → Nat → Nat} {M N Mx Mm : jM} {k h d : Nat}
theorem app_1 : app c k h d 1 0 = c 1 0 + 1 := rfl
theorem app_0 (z : Nat) : app c k h d 0 z = c 0 z := rfl
theorem app_2 (z : Nat) : app c k h d 2 z = if z = c 1 0 then k else c 2 z := by
  show (if 2 = 2 ∧ z = c 1 0 then k else if 2 = 3 ∧ z = c 1 0 then h else if 2 = 4 ∧ z = c 1 0 then d else c 2 z) = _
  simp
theorem app_3 (z : Nat) : app c k h d 3 z = if z = c 1 0 then h else c 3 z := by
  show (if 3 = 2 ∧ z = c 1 0 then k else if 3 = 3 ∧ z = c 1 0 then h else if 3 = 4 ∧ z = c 1 0 then d else c 3 z) = _
  simp
theorem app_4 (z : Nat) : app c k h d 4 z = if z = c 1 0 then d else c 4 z := by
  show (if 4 = 2 ∧ z = c 1 0 then k else if 4 = 3 ∧ z = c 1 0 then h else if 4 = 4 ∧ z = c 1 0 then d else c 4 z) = _
  simp
theorem app_v {s : Nat} (hs : s ≤ c 1 0) : vec q (app c k h d) s = vec q c s := vec_cg s (fun z hz => by rw [app_2, app_3, app_4, if_neg (by omega), if_neg (by omega), if_neg (by omega)]; exact ⟨rfl, rfl, rfl⟩)
theorem app_vn : vec q (app c k h d) (c 1 0 + 1) = stp q (vec q c (c 1 0)) k h d := by
  show stp q (vec q (app c k h d) (c 1 0)) _ _ _ = _
  rw [app_v (Nat.le_refl _), app_2, app_3, app_4, if_pos rfl, if_pos rfl, if_pos rfl]
theorem app_cmg (z : Nat) : cmg q (app c k h d) z = cmg q c z := rfl
theorem app_ok (hc : okC q c) (hn : c 1 0 < 40) (l : lgl q c (vec q c (c 1 0)) k h d) : okC q (app c k h d) := by
  refine ⟨?_, fun z hz => ?_, fun s hs => ?_⟩
  · rw [app_1]; omega
  · exact hc.2.1 z hz
  · rw [app_1] at hs
    rw [app_v (by omega), app_2, app_3, app_4]
    by_cases e : s = c 1 0
    · subst e; rw [if_pos rfl, if_pos rfl, if_pos rfl]; exact l
    · rw [if_neg e, if_neg e, if_neg e]; exact hc.2.2 s (by omega)
/-- the class: a step noted -/
def tk (M : jM) (n : Nat) (a1 a2 a3 : Int32) : jM := si (si (si (si M 41 n a1) 42 n a2) 43 n a3) 39 6 (nI (n + 1))
theorem tk_st {n : Nat} {a1 a2 a3 : Int32} {j : Nat} (hj : j ≠ 4) : stX j M (tk M n a1 a2 a3) := stX_tr (stX_tr (stX_tr (stX_si (fun w => hj (w.symm.trans rfl))) (stX_si (fun w => hj (w.symm.trans rfl)))) (stX_si (fun w => hj (w.symm.trans rfl)))) (stX_si (fun w => hj (w.symm.trans rfl)))
theorem tk_39 {n : Nat} {a1 a2 a3 : Int32} (z : Nat) : gi (tk M n a1 a2 a3) 39 z = if z = 6 then nI (n + 1) else gi M 39 z := by simp [tk, gi_si]
theorem tk_40 {n : Nat} {a1 a2 a3 : Int32} (z : Nat) : gi (tk M n a1 a2 a3) 40 z = gi M 40 z := by simp [tk, gi_si]
theorem tk_41 {n : Nat} {a1 a2 a3 : Int32} (z : Nat) : gi (tk M n a1 a2 a3) 41 z = if z = n then a1 else gi M 41 z := by simp [tk, gi_si]
theorem tk_42 {n : Nat} {a1 a2 a3 : Int32} (z : Nat) : gi (tk M n a1 a2 a3) 42 z = if z = n then a2 else gi M 42 z := by simp [tk, gi_si]
theorem tk_43 {n : Nat} {a1 a2 a3 : Int32} (z : Nat) : gi (tk M n a1 a2 a3) 43 z = if z = n then a3 else gi M 43 z := by simp [tk, gi_si]
theorem tk_44 {n : Nat} {a1 a2 a3 : Int32} (z : Nat) : gi (tk M n a1 a2 a3) 44 z = gi M 44 z := by simp [tk, gi_si]
theorem x_full (H : CX q c M) : f_X0_isFull M = some (b2 (decide (40 ≤ c 1 0))) := by
  have b := vbd H.1 H.2.2.1
  unfold f_X0_isFull
  rw [x6 H]
  by_cases e : 40 ≤ c 1 0
  · rw [if_neg (show ¬ nI (c 1 0) < 40 from nI_nlt (b := 40) e (by omega))]; simp [e, b2]
  · rw [if_pos (show nI (c 1 0) < 40 from nI_lt (b := 40) (by omega) (by decide))]; simp [e, b2]
theorem x_take (hn : c 1 0 < 40) (H : CX q c M) (a1 a2 a3 : Int32) : f_X0_take a1 a2 a3 M = (if a1 = 0 then some (si (tk M (c 1 0) a1 a2 a3) 39 7 ((gi (tk M (c 1 0) a1 a2 a3) 39 7) + 1)) else if a1 = 2 then some (si (tk M (c 1 0) a1 a2 a3) 39 9 ((gi (tk M (c 1 0) a1 a2 a3) 39 9) ||| ((1 : Int32) <<< (a2 &&& 31)))) else f_X0_live a2 a3 (tk M (c 1 0) a1 a2 a3)) := by
  have b := vbd H.1 H.2.2.1
  have e1 : gi (si M 41 (c 1 0) a1) 39 6 = nI (c 1 0) := by rw [gi_si, if_neg (by omega)]; exact x6 H
  have e2 : gi (si (si M 41 (c 1 0) a1) 42 (c 1 0) a2) 39 6 = nI (c 1 0) := by rw [gi_si, if_neg (by omega)]; exact e1
  have e3 : gi (si (si (si M 41 (c 1 0) a1) 42 (c 1 0) a2) 43 (c 1 0) a3) 39 6 = nI (c 1 0) := by rw [gi_si, if_neg (by omega)]; exact e2
  unfold f_X0_take
  rw [x_full H, jb1_e, b2_if, if_neg (by simp; omega), x6 H, jg_t (jin_nI hn (by decide)), nI_clamp (show c 1 0 < 2 ^ 31 by omega), jlet_e, e1, jg_t (jin_nI hn (by decide)), nI_clamp (show c 1 0 < 2 ^ 31 by omega), jlet_e, e2, jg_t (jin_nI hn (by decide)), nI_clamp (show c 1 0 < 2 ^ 31 by omega), jlet_e, e3, jlet_e, nI_1]
  show (if a1 = 0 then _ else if a1 = 2 then _ else jb1 (f_X0_live a2 a3 (tk M (c 1 0) a1 a2 a3)) fun M13 => some M13) = _
  have e4 : ∀ x : Option jM, (jb1 x fun M13 => some M13) = x := fun x => by cases x <;> rfl
  rw [e4]; rfl
/-- what the class must hold behind a step -/
theorem cX_app {a1 a2 a3 : Int32} (hc : cX 39 q c M) (e1 : a1 = nI k) (e2 : a2 = if k = 0 then -9 else nI h) (e3 : a3 = dI d) (f6 : gi N 39 6 = nI (c 1 0 + 1)) (f7 : ∀ j, j < 5 → gi N 39 (7 + j) = nI (stp q (vec q c (c 1 0)) k h d j)) (f40 : ∀ z, gi N 40 z = gi M 40 z) (f41 : ∀ z, gi N 41 z = if z = c 1 0 then a1 else gi M 41 z) (f42 : ∀ z, gi N 42 z = if z = c 1 0 then a2 else gi M 42 z) (f43 : ∀ z, gi N 43 z = if z = c 1 0 then a3 else gi M 43 z) (f44 : ∀ z, z < 7 → gi N 44 z = dI (stp q (vec q c (c 1 0)) k h d (5 + z))) : cX 39 q (app c k h d) N := by
  obtain ⟨h1, h2, h3, h4, h5⟩ := hc
  refine ⟨?_, fun j hj => ?_, fun z hz => ?_, fun s hs => ?_, fun z hz => ?_⟩
  · rw [app_1]; exact f6
  · rw [app_1, app_vn]; exact f7 j hj
  · show gi N 40 z = _
    rw [f40, app_0]; exact h3 z hz
  · rw [app_1] at hs
    show gi N 41 s = _ ∧ gi N 42 s = _ ∧ gi N 43 s = _
    rw [f41, f42, f43, app_2, app_3, app_4]
    by_cases e : s = c 1 0
    · subst e
      rw [if_pos rfl, if_pos rfl, if_pos rfl, if_pos rfl, if_pos rfl, if_pos rfl]; exact ⟨e1, e2, e3⟩
    · rw [if_neg e, if_neg e, if_neg e, if_neg e, if_neg e, if_neg e]; exact h4 s (by omega)
  · show gi N 44 z = _
    rw [app_1, app_vn]; exact f44 z hz
theorem stp0 (v : Nat → Nat) (j : Nat) : stp q v 0 h d j = if j = 0 then v 0 + 1 else v j := rfl
theorem stp2 (v : Nat → Nat) (j : Nat) : stp q v 2 h d j = if j = 2 then v 2 ||| 2 ^ h else v j := rfl
theorem x_day (hn : c 1 0 < 40) (H : CX q c M) : ∃ N, f_X0_take 0 (-9) (-9) M = some N ∧ cX 39 q (app c 0 0 0) N ∧ (∀ j, j ≠ 4 → stX j M N) ∧ gi N 39 7 = nI (vec q c (c 1 0) 0 + 1) ∧ tkA M N (c 1 0) 0 (-9) (-9) := by
  have b := vbd H.1 H.2.2.1
  rw [x_take hn H, if_pos rfl]
  have e7 : gi (tk M (c 1 0) 0 (-9) (-9)) 39 7 = nI (vec q c (c 1 0) 0) := by rw [tk_39, if_neg (by decide)]; exact x7 H
  rw [e7, nI_1]
  refine ⟨_, rfl, ?_, fun j hj => stX_tr (tk_st hj) (stX_si (fun w => hj (w.symm.trans rfl))), by rw [gi_si, if_pos ⟨rfl, rfl⟩], fun z => ⟨by simp [gi_si, tk_41], by simp [gi_si, tk_42], by simp [gi_si, tk_43]⟩⟩
  refine cX_app (a1 := 0) (a2 := -9) (a3 := -9) H.2.2.2 rfl rfl rfl ?_ (fun j hj => ?_) (fun z => ?_) (fun z => ?_) (fun z => ?_) (fun z => ?_) (fun z hz => ?_)
  · rw [gi_si, if_neg (by omega), tk_39, if_pos rfl]
  · rw [gi_si, stp0]
    by_cases e : j = 0
    · subst e; rw [if_pos ⟨rfl, rfl⟩, if_pos rfl]
    · rw [if_neg (by omega), if_neg e, tk_39, if_neg (by omega)]; exact H.2.2.2.2.1 j hj
  · rw [gi_si, if_neg (by omega), tk_40]
  · rw [gi_si, if_neg (by omega), tk_41]
  · rw [gi_si, if_neg (by omega), tk_42]
  · rw [gi_si, if_neg (by omega), tk_43]
  · rw [gi_si, if_neg (by omega), tk_44, stp0, if_neg (by omega)]; exact H.2.2.2.2.2.2.2 z hz
theorem x_send (hn : c 1 0 < 40) (H : CX q c M) (hh : h < q 0 1) : ∃ N, f_X0_take 2 (nI h) (-9) M = some N ∧ cX 39 q (app c 2 h 0) N ∧ (∀ j, j ≠ 4 → stX j M N) ∧ tkA M N (c 1 0) 2 (nI h) (-9) := by
  have b := vbd H.1 H.2.2.1
  rw [x_take hn H, if_neg (by decide), if_pos rfl]
  have e7 : gi (tk M (c 1 0) 2 (nI h) (-9)) 39 9 = nI (vec q c (c 1 0) 2) := by rw [tk_39, if_neg (by decide)]; exact x9 H
  rw [e7, jshl h (by omega), jor]
  refine ⟨_, rfl, ?_, fun j hj => stX_tr (tk_st hj) (stX_si (fun w => hj (w.symm.trans rfl))), fun z => ⟨by simp [gi_si, tk_41], by simp [gi_si, tk_42], by simp [gi_si, tk_43]⟩⟩
  refine cX_app (a1 := 2) (a2 := nI h) (a3 := -9) H.2.2.2 rfl rfl rfl ?_ (fun j hj => ?_) (fun z => ?_) (fun z => ?_) (fun z => ?_) (fun z => ?_) (fun z hz => ?_)
  · rw [gi_si, if_neg (by omega), tk_39, if_pos rfl]
  · rw [gi_si, stp2]
    by_cases e : j = 2
    · subst e; rw [if_pos ⟨rfl, rfl⟩, if_pos rfl]
    · rw [if_neg (by omega), if_neg e, tk_39, if_neg (by omega)]; exact H.2.2.2.2.1 j hj
  · rw [gi_si, if_neg (by omega), tk_40]
  · rw [gi_si, if_neg (by omega), tk_41]
  · rw [gi_si, if_neg (by omega), tk_42]
  · rw [gi_si, if_neg (by omega), tk_43]
  · rw [gi_si, if_neg (by omega), tk_44, stp2, if_neg (by omega)]; exact H.2.2.2.2.2.2.2 z hz
theorem stp1 (v : Nat → Nat) (j : Nat) : stp q v 1 h d j = if j = 1 then v 1 ||| 2 ^ h else if j = 3 then (if d = 0 then v 3 else v 3 ||| 2 ^ (d - 1)) else if j = 4 then (if d ≠ 0 ∧ isk (q 1 (d - 1)) 1 = true then 0 else v 4 + 1) else if j = 5 + h then d else v j := rfl
theorem m9neg : (-9 : Int32) < 0 := by decide
theorem x_open0 (hn : c 1 0 < 40) (H : CX q c M) (hh : h < q 0 1) (ho : (vec q c (c 1 0) 1).testBit h = false) : ∃ N, f_X0_take 1 (nI h) (-9) M = some N ∧ cX 39 q (app c 1 h 0) N ∧ (∀ j, j ≠ 4 → stX j M N) ∧ tkA M N (c 1 0) 1 (nI h) (-9) := by
  have b := vbd H.1 H.2.2.1
  have g := (cgd H.1 H.2.2.1).2.2.2.2.2.2.2 h ho
  rw [x_take hn H, if_neg (by decide), if_neg (by decide)]
  unfold f_X0_live
  have e7 : gi (tk M (c 1 0) 1 (nI h) (-9)) 39 8 = nI (vec q c (c 1 0) 1) := by rw [tk_39, if_neg (by decide)]; exact x8 H
  have e8 : ∀ v, gi (si (tk M (c 1 0) 1 (nI h) (-9)) 39 8 v) 39 11 = nI (vec q c (c 1 0) 4) := fun v => by rw [gi_si, if_neg (by omega), tk_39, if_neg (by decide)]; exact x11 H
  rw [e7, jshl h (by omega), jor, jlet_e, e8, nI_1, jlet_e, x_hd_f (q := q) (hX_st (stX_tr (tk_st (by decide)) (stX_tr (stX_si (by decide)) (stX_si (by decide)))) H.2.1) (Or.inl m9neg), jb1_e, if_pos j00]
  refine ⟨_, rfl, ?_, fun j hj => stX_tr (tk_st hj) (stX_tr (stX_si (fun w => hj (w.symm.trans rfl))) (stX_si (fun w => hj (w.symm.trans rfl)))), fun z => ⟨by simp [gi_si, tk_41], by simp [gi_si, tk_42], by simp [gi_si, tk_43]⟩⟩
  refine cX_app (a1 := 1) (a2 := nI h) (a3 := -9) H.2.2.2 rfl rfl rfl ?_ (fun j hj => ?_) (fun z => ?_) (fun z => ?_) (fun z => ?_) (fun z => ?_) (fun z hz => ?_)
  · rw [gi_si, if_neg (by omega), gi_si, if_neg (by omega), tk_39, if_pos rfl]
  · rw [gi_si, gi_si, stp1]
    rcases (show j = 0 ∨ j = 1 ∨ j = 2 ∨ j = 3 ∨ j = 4 by omega) with rfl | rfl | rfl | rfl | rfl
    · rw [if_neg (by decide), if_neg (by decide), if_neg (by decide), if_neg (by decide), if_neg (by decide), if_neg (by omega), tk_39, if_neg (by decide)]; exact x7 H
    · rfl
    · rw [if_neg (by decide), if_neg (by decide), if_neg (by decide), if_neg (by decide), if_neg (by decide), if_neg (by omega), tk_39, if_neg (by decide)]; exact x9 H
    · rw [if_neg (by decide), if_neg (by decide), if_neg (by decide), if_pos rfl, if_pos rfl, tk_39, if_neg (by decide)]; exact x10 H
    · rfl
  · rw [gi_si, if_neg (by omega), gi_si, if_neg (by omega), tk_40]
  · rw [gi_si, if_neg (by omega), gi_si, if_neg (by omega), tk_41]
  · rw [gi_si, if_neg (by omega), gi_si, if_neg (by omega), tk_42]
  · rw [gi_si, if_neg (by omega), gi_si, if_neg (by omega), tk_43]
  · rw [gi_si, if_neg (by omega), gi_si, if_neg (by omega), tk_44, stp1, if_neg (by omega), if_neg (by omega), if_neg (by omega)]
    by_cases e : z = h
    · subst e; rw [if_pos rfl, ← g]; exact H.2.2.2.2.2.2.2 z hz
    · rw [if_neg (by omega)]; exact H.2.2.2.2.2.2.2 z hz
theorem x_kind1 (hq : okP q) (hx : hX q M) {i : Nat} (hi : i < q 0 0) : f_X2_isOfKind (nI i) 1 M = some (b2 (isk (q 1 i) 1)) := x_kind (k := 1) hq hx hi (by decide)
theorem x_open1 (hn : c 1 0 < 40) (H : CX q c M) (hh : h < q 0 1) {i : Nat} (hi : i < q 0 0) : ∃ N, f_X0_take 1 (nI h) (nI i) M = some N ∧ cX 39 q (app c 1 h (i + 1)) N ∧ (∀ j, j ≠ 4 → stX j M N) ∧ tkA M N (c 1 0) 1 (nI h) (nI i) := by
  have b := vbd H.1 H.2.2.1
  rw [x_take hn H, if_neg (by decide), if_neg (by decide)]
  unfold f_X0_live
  have e7 : gi (tk M (c 1 0) 1 (nI h) (nI i)) 39 8 = nI (vec q c (c 1 0) 1) := by rw [tk_39, if_neg (by decide)]; exact x8 H
  have e8 : ∀ v, gi (si (tk M (c 1 0) 1 (nI h) (nI i)) 39 8 v) 39 11 = nI (vec q c (c 1 0) 4) := fun v => by rw [gi_si, if_neg (by omega), tk_39, if_neg (by decide)]; exact x11 H
  have e9 : ∀ v w u, gi (si (si (si (tk M (c 1 0) 1 (nI h) (nI i)) 39 8 v) 39 11 w) 44 h u) 39 10 = nI (vec q c (c 1 0) 3) := fun v w u => by rw [gi_si, if_neg (by omega), gi_si, if_neg (by omega), gi_si, if_neg (by omega), tk_39, if_neg (by decide)]; exact x10 H
  have hA : ∀ v w, hX q (si (si (tk M (c 1 0) 1 (nI h) (nI i)) 39 8 v) 39 11 w) := fun v w => hX_st (stX_tr (tk_st (by decide)) (stX_tr (stX_si (by decide)) (stX_si (by decide)))) H.2.1
  have hB : ∀ v w u x, hX q (si (si (si (si (tk M (c 1 0) 1 (nI h) (nI i)) 39 8 v) 39 11 w) 44 h u) 39 10 x) := fun v w u x => hX_st (stX_tr (stX_si (by decide)) (stX_si (by decide))) (hA v w)
  rw [e7, jshl h (by omega), jor, jlet_e, e8, nI_1, jlet_e, x_hd_t H.1 (hA _ _) hi, jb1_e, if_neg j10, x_hh_t H.1 (hA _ _) hh, jb1_e, if_neg j10, jg_t (jin_nI (show h < 7 by omega) (by decide)), nI_clamp (show h < 2 ^ 31 by omega), jlet_e, e9, jshl i (by omega), jor, jlet_e, x_kind1 H.1 (hB _ _ _ _) hi, jb1_e, b2_if, jlet_e]
  by_cases e : isk (q 1 i) 1 = true
  · rw [if_pos e]
    refine ⟨_, rfl, ?_, fun j hj => stX_tr (tk_st hj) (stX_tr (stX_tr (stX_tr (stX_tr (stX_si (fun w => hj (w.symm.trans rfl))) (stX_si (fun w => hj (w.symm.trans rfl)))) (stX_si (fun w => hj (w.symm.trans rfl)))) (stX_si (fun w => hj (w.symm.trans rfl)))) (stX_si (fun w => hj (w.symm.trans rfl)))), fun z => ⟨by simp [gi_si, tk_41], by simp [gi_si, tk_42], by simp [gi_si, tk_43]⟩⟩
    refine cX_app (a1 := 1) (a2 := nI h) (a3 := nI i) H.2.2.2 rfl rfl rfl ?_ (fun j hj => ?_) (fun z => ?_) (fun z => ?_) (fun z => ?_) (fun z => ?_) (fun z hz => ?_)
    · simp [gi_si, tk_39]
    · rw [stp1]
      rcases (show j = 0 ∨ j = 1 ∨ j = 2 ∨ j = 3 ∨ j = 4 by omega) with rfl | rfl | rfl | rfl | rfl
      · rw [if_neg (by decide), if_neg (by decide), if_neg (by decide), if_neg (by omega)]
        simp [gi_si, tk_39]; exact x7 H
      · simp [gi_si, tk_39]
      · rw [if_neg (by decide), if_neg (by decide), if_neg (by decide), if_neg (by omega)]
        simp [gi_si, tk_39]; exact x9 H
      · simp [gi_si, tk_39]
      · simp [gi_si, tk_39, e]; rfl
    · simp [gi_si, tk_40]
    · simp [gi_si, tk_41]
    · simp [gi_si, tk_42]
    · simp [gi_si, tk_43]
    · rw [stp1, if_neg (by omega), if_neg (by omega), if_neg (by omega)]
      by_cases w : z = h
      · subst w; rw [if_pos rfl]; simp [gi_si]; rfl
      · rw [if_neg (by omega)]; simp [gi_si, w, tk_44]; exact H.2.2.2.2.2.2.2 z hz
  · rw [if_neg e]
    refine ⟨_, rfl, ?_, fun j hj => stX_tr (tk_st hj) (stX_tr (stX_tr (stX_tr (stX_si (fun w => hj (w.symm.trans rfl))) (stX_si (fun w => hj (w.symm.trans rfl)))) (stX_si (fun w => hj (w.symm.trans rfl)))) (stX_si (fun w => hj (w.symm.trans rfl)))), fun z => ⟨by simp [gi_si, tk_41], by simp [gi_si, tk_42], by simp [gi_si, tk_43]⟩⟩
    refine cX_app (a1 := 1) (a2 := nI h) (a3 := nI i) H.2.2.2 rfl rfl rfl ?_ (fun j hj => ?_) (fun z => ?_) (fun z => ?_) (fun z => ?_) (fun z => ?_) (fun z hz => ?_)
    · simp [gi_si, tk_39]
    · rw [stp1]
      rcases (show j = 0 ∨ j = 1 ∨ j = 2 ∨ j = 3 ∨ j = 4 by omega) with rfl | rfl | rfl | rfl | rfl
      · rw [if_neg (by decide), if_neg (by decide), if_neg (by decide), if_neg (by omega)]
        simp [gi_si, tk_39]; exact x7 H
      · simp [gi_si, tk_39]
      · rw [if_neg (by decide), if_neg (by decide), if_neg (by decide), if_neg (by omega)]
        simp [gi_si, tk_39]; exact x9 H
      · simp [gi_si, tk_39]
      · simp [gi_si, tk_39, e]
    · simp [gi_si, tk_40]
    · simp [gi_si, tk_41]
    · simp [gi_si, tk_42]
    · simp [gi_si, tk_43]
    · rw [stp1, if_neg (by omega), if_neg (by omega), if_neg (by omega)]
      by_cases w : z = h
      · subst w; rw [if_pos rfl]; simp [gi_si]; rfl
      · rw [if_neg (by omega)]; simp [gi_si, w, tk_44]; exact H.2.2.2.2.2.2.2 z hz
end JJ
