/-! orders: the first shortest order; how far it is -/
def pth (q : Nat → Nat → Nat) (P i : Nat) : Nat → Nat → Prop
  | 0 => fun x => (x / 3 % 64).testBit i = true
  | m + 1 => fun x => ∃ y, Eg q P x y ∧ pth q P i m y
def isN (q : Nat → Nat → Nat) (P i x v : Nat) : Prop := (v < 99 ∧ pth q P i v x ∧ ∀ m, m < v → ¬ pth q P i m x) ∨ (v = 99 ∧ ∀ m, ¬ pth q P i m x)
section JZ
variable {q c : Nat → Nat → Nat} {M N K Mx Mm Nx Nm : jM} {P i : Nat}
theorem pc_or : ∀ S, S < 128 → ∀ h, h < 7 → S.testBit h = false → pc (S ||| 2 ^ h) = pc S + 1 := by decide +kernel
theorem bhx_d (hq : okP q) {x h e : Nat} (hx : x < 24576) (hh : h < q 0 1) (he : e ≤ q 0 0) : bhx q x h e / 192 = (x / 192 ||| 2 ^ h) ∧ bhx q x h e / 3 % 64 = (x / 3 % 64 ||| dbt e) ∧ bhx q x h e % 3 = gpb q (x % 3) e ∧ bhx q x h e < 24576 := by
  have h2 := gpb_le (q := q) (x % 3) e
  have h3 := jor7 (a := x / 192) (h := h) (by omega) (by have := hq.2.1; omega)
  have h4 := dbt_or (D := x / 3 % 64) (e := e) (by omega) (by have := hq.1; omega)
  unfold bhx
  refine ⟨?_, ?_, ?_, ?_⟩ <;> omega
theorem eg_pc (hq : okP q) {x y : Nat} (hx : x < 24576) (hE : Eg q P x y) : y < 24576 ∧ pc (y / 192) = pc (x / 192) + 1 := by
  refine ⟨eg_lt hq hx hE, ?_⟩
  obtain ⟨h, e, hh, he, hl, rfl⟩ := hE
  rw [(bhx_d hq hx hh he).1]
  exact pc_or _ (by omega) h (by have := hq.2.1; omega) (ldx_b hl).2.1
theorem pth_bd (hq : okP q) : ∀ m x, x < 24576 → pth q P i m x → pc (x / 192) + m ≤ 7
  | 0, x, _, _ => pc_le _
  | m + 1, x, hx, ⟨y, hE, hy⟩ => by
    have h1 := eg_pc hq hx hE
    have := pth_bd hq m y h1.1 hy
    omega
theorem isN_bd (hq : okP q) {x v : Nat} (hx : x < 24576) (h : isN q P i x v) : v ≤ 7 ∨ v = 99 := by
  rcases h with ⟨_, h, _⟩ | ⟨h, _⟩
  · have := pth_bd hq v x hx h; omega
  · exact Or.inr h
theorem isN_u {x v w : Nat} (h1 : isN q P i x v) (h2 : isN q P i x w) : v = w := by
  rcases h1 with ⟨a1, a2, a3⟩ | ⟨a1, a2⟩
  · rcases h2 with ⟨b1, b2, b3⟩ | ⟨b1, b2⟩
    · rcases Nat.lt_trichotomy v w with z | z | z
      · exact absurd a2 (b3 v z)
      · exact z
      · exact absurd b2 (a3 w z)
    · exact absurd a2 (b2 v)
  · rcases h2 with ⟨b1, b2, b3⟩ | ⟨b1, b2⟩
    · exact absurd b2 (a2 w)
    · omega
/-- of x what is known behind some of the pairs -/
def Jn (q : Nat → Nat → Nat) (P i x h e w : Nat) : Prop := w ≤ 99 ∧ 1 ≤ w ∧ (w < 99 → ∃ y, Eg q P x y ∧ pth q P i (w - 1) y) ∧ ∀ h' e', h' < q 0 1 → e' ≤ q 0 0 → (h' < h ∨ (h' = h ∧ e' < e)) → ldx q P x h' e' = true → ∀ m, pth q P i m (bhx q x h' e') → w ≤ m + 1
def nK (q : Nat → Nat → Nat) (P i x : Nat) (M : jM) : Prop := ∀ y, x ≤ y → y < 24576 → ∃ v, gi M 21 y = nI v ∧ isN q P i y v
theorem m_fn57 (hq : okP q) {x h : Nat} (hP : P < 128) (hx : x < 24576) (hh : h < q 0 1) : ∀ (r e m : Nat) (M : jM) (w : Nat), e + r = q 0 0 + 1 → r < m → hM q M → nK q P i (x + 1) M → gi M 21 x = nI w → Jn q P i x h e w → ∃ N w', f_X6_findNeed_L57 m (nI P) (nI x) (nI h) (tm e) M = some (nI (q 0 0), N) ∧ gi N 21 x = nI w' ∧ Jn q P i x h (q 0 0 + 1) w' ∧ (∀ a z, ¬ (a = 21 ∧ z = x) → gi N a z = gi M a z) ∧ ∀ a z, gl N a z = gl M a z
  | 0, e, m, M, w, he, hm, hM, hK, hw, hJ => by
    obtain ⟨m', rfl⟩ : ∃ m', m = m' + 1 := ⟨m - 1, by omega⟩
    have h6 := hq.1
    have e1 : e = q 0 0 + 1 := by omega
    subst e1
    refine ⟨M, w, ?_, hw, hJ, fun _ _ _ => rfl, fun _ _ => rfl⟩
    show f_X6_findNeed_L57_b (f_X6_findNeed_L57 m') _ _ _ _ M = _
    unfold f_X6_findNeed_L57_b
    rw [tmS, hM.1, if_pos (nI_le (Nat.le_refl _) (by omega))]
  | r + 1, e, m, M, w, he, hm, hM, hK, hw, hJ => by
    obtain ⟨m', rfl⟩ : ∃ m', m = m' + 1 := ⟨m - 1, by omega⟩
    have h6 := hq.1
    have hge : ¬ nI (q 0 0) ≤ tm e := by
      cases e with
      | zero => rw [tm0]; exact fun w => by
                  rw [Int32.le_iff_toInt_le, nI_toInt (by omega)] at w
                  have : (-1 : Int32).toInt = -1 := rfl
                  omega
      | succ i => rw [tmS]; exact nI_ge (by omega) (by omega)
    obtain ⟨j1, j2, j3, j4⟩ := hJ
    have hst : ∃ v w', (if b2 (ldx q P x h e) = 0 then some (99 : Int32) else jb1 (f_X6_behind (nI x) (nI h) (tm e) M) fun r12 => jg (jin r12 24576) (some (gi M 21 r12.toNatClampNeg + 1))) = some (nI v) ∧ v ≤ 100 ∧ (w' = if w ≤ v then w else v) ∧ Jn q P i x h (e + 1) w' := by
      rw [b2_if]
      cases hl : ldx q P x h e with
      | false =>
        refine ⟨99, w, if_neg Bool.false_ne_true, by decide, by rw [if_pos j1], j1, j2, j3, fun h' e' a1 a2 a3 a4 => ?_⟩
        refine j4 h' e' a1 a2 ?_ a4
        rcases a3 with a3 | ⟨a3, a5⟩
        · exact Or.inl a3
        · refine Or.inr ⟨a3, ?_⟩
          rcases Nat.lt_or_ge e' e with z | z
          · exact z
          · have : e' = e := by omega
            rw [a3, this, hl] at a4; exact absurd a4 Bool.false_ne_true
      | true =>
        have hb := bhx_d hq hx hh (show e ≤ q 0 0 by omega)
        have hE : Eg q P x (bhx q x h e) := ⟨h, e, hh, by omega, hl, rfl⟩
        obtain ⟨v, v1, v2⟩ := hK (bhx q x h e) (by have := (eg_rk hE).1; omega) hb.2.2.2
        have vb := isN_bd hq hb.2.2.2 v2
        rw [if_pos rfl, m_behind hq hM hx hh (by omega), jb1_e, jg_t (jin_nI hb.2.2.2 (by decide)), nI_clamp (show bhx q x h e < 2 ^ 31 by omega), v1, nI_1]
        refine ⟨v + 1, _, rfl, by omega, rfl, ?_⟩
        by_cases z : w ≤ v + 1
        · rw [if_pos z]
          refine ⟨j1, j2, j3, fun h' e' a1 a2 a3 a4 m hm => ?_⟩
          rcases a3 with a3 | ⟨a3, a5⟩
          · exact j4 h' e' a1 a2 (Or.inl a3) a4 m hm
          · rcases Nat.lt_or_ge e' e with u | u
            · exact j4 h' e' a1 a2 (Or.inr ⟨a3, u⟩) a4 m hm
            · have e1 : e' = e := by omega
              subst a3; subst e1
              rcases v2 with ⟨_, _, y3⟩ | ⟨_, y2⟩
              · rcases Nat.lt_or_ge m v with t | t
                · exact absurd hm (y3 m t)
                · omega
              · exact absurd hm (y2 m)
        · rw [if_neg z]
          have v8 : v ≤ 7 := by omega
          rcases v2 with ⟨_, y2, y3⟩ | ⟨y1, _⟩
          · refine ⟨by omega, by omega, fun _ => ⟨_, hE, by rw [Nat.add_sub_cancel]; exact y2⟩, fun h' e' a1 a2 a3 a4 m hm => ?_⟩
            rcases a3 with a3 | ⟨a3, a5⟩
            · have := j4 h' e' a1 a2 (Or.inl a3) a4 m hm; omega
            · rcases Nat.lt_or_ge e' e with u | u
              · have := j4 h' e' a1 a2 (Or.inr ⟨a3, u⟩) a4 m hm; omega
              · have e1 : e' = e := by omega
                subst a3; subst e1
                rcases Nat.lt_or_ge m v with t | t
                · exact absurd hm (y3 m t)
                · omega
          · omega
    obtain ⟨v, w', s1, s2, s3, s4⟩ := hst
    have hw' : (if nI w ≤ nI v then jg (jin (nI x) 24576) (some (nI w)) else some (nI v)) = some (nI w') := by
      rw [jg_t (jin_nI hx (by decide)), s3]
      by_cases z : w ≤ v
      · rw [if_pos z, if_pos (nI_le z (by omega))]
      · rw [if_neg z, if_neg (nI_ge (by omega) (by omega))]
    obtain ⟨N, w2, n1, n2, n3, n4, n5⟩ := m_fn57 hq hP hx hh r (e + 1) m' (si M 21 x (nI w')) w' (by omega) (by omega) (hM_st (stM_si (o := 21) (k := x) (show (6 : Nat) ≠ 3 by decide)) hM) (fun y h1 h2 => by
      rw [gi_si, if_neg (by omega)]; exact hK y h1 h2) (by rw [gi_si, if_pos ⟨rfl, rfl⟩]) s4
    refine ⟨N, w2, ?_, n2, n3, fun a z hz => ?_, fun a z => n5 a z⟩
    · show f_X6_findNeed_L57_b (f_X6_findNeed_L57 m') _ _ _ _ M = _
      unfold f_X6_findNeed_L57_b
      rw [hM.1, if_neg hge, m_leads hq hM hP hx hh (by omega), jb1_e, s1, jb1_e, jg_t (jin_nI hx (by decide)), nI_clamp (show x < 2 ^ 31 by omega), hw, hw', jb1_e, jg_t (jin_nI hx (by decide)), jlet_e, jlet_e, tm1, n1]
    · rw [n4 a z hz, gi_si, if_neg hz]
theorem m_fn36 (hq : okP q) {x : Nat} (hP : P < 128) (hx : x < 24576) : ∀ (r h m : Nat) (M : jM) (w : Nat), h + r = q 0 1 → r < m → hM q M → nK q P i (x + 1) M → gi M 21 x = nI w → Jn q P i x h 0 w → ∃ N w', f_X6_findNeed_L36 m (nI P) (nI x) (nI h) M = some (nI (q 0 1), N) ∧ gi N 21 x = nI w' ∧ Jn q P i x (q 0 1) 0 w' ∧ (∀ a z, ¬ (a = 21 ∧ z = x) → gi N a z = gi M a z) ∧ ∀ a z, gl N a z = gl M a z
  | 0, h, m, M, w, he, hm, hM, hK, hw, hJ => by
    obtain ⟨m', rfl⟩ : ∃ m', m = m' + 1 := ⟨m - 1, by omega⟩
    have h7 := hq.2.1
    have e1 : h = q 0 1 := by omega
    subst e1
    refine ⟨M, w, ?_, hw, hJ, fun _ _ _ => rfl, fun _ _ => rfl⟩
    show f_X6_findNeed_L36_b (f_X6_findNeed_L36 m') _ _ _ M = _
    unfold f_X6_findNeed_L36_b
    rw [hM.2.1, if_pos (nI_le (Nat.le_refl _) (by omega))]
  | r + 1, h, m, M, w, he, hm, hM, hK, hw, hJ => by
    obtain ⟨m', rfl⟩ : ∃ m', m = m' + 1 := ⟨m - 1, by omega⟩
    have h7 := hq.2.1
    have h6 := hq.1
    obtain ⟨N, w1, n1, n2, n3, n4, n5⟩ := m_fn57 hq hP hx (show h < q 0 1 by omega) (q 0 0 + 1) 0 jfu M w (by omega) (by unfold jfu; omega) hM hK hw hJ
    rw [tm0] at n1
    have J2 : Jn q P i x (h + 1) 0 w1 := by
      obtain ⟨j1, j2, j3, j4⟩ := n3
      refine ⟨j1, j2, j3, fun h' e' a1 a2 a3 a4 => j4 h' e' a1 a2 ?_ a4⟩
      omega
    have s3 : stM 3 M N := fun a k ha => ⟨n4 a k (fun z => by rw [z.1] at ha; exact absurd ha (show ¬ (6 : Nat) = 3 by decide)), n5 a k⟩
    obtain ⟨K, w2, k1, k2, k3, k4, k5⟩ := m_fn36 hq hP hx r (h + 1) m' N w1 (by omega) (by omega) (hM_st s3 hM) (fun y h1 h2 => by
      rw [n4 _ _ (by omega)]; exact hK y h1 h2) n2 J2
    refine ⟨K, w2, ?_, k2, k3, fun a z hz => (k4 a z hz).trans (n4 a z hz), fun a z => (k5 a z).trans (n5 a z)⟩
    show f_X6_findNeed_L36_b (f_X6_findNeed_L36 m') _ _ _ M = _
    unfold f_X6_findNeed_L36_b
    rw [hM.2.1, if_neg (nI_ge (show h < q 0 1 by omega) (by omega)), jg_t (jin_nI hx (by decide)), nI_clamp (show x < 2 ^ 31 by omega), hw, if_neg (nI_nle (show 0 < w from hJ.2.1) (by have := hJ.1; omega)), n1, jb2_e, jlet_e, nI_1, k1]
theorem m_fn4 (hq : okP q) (hP : P < 128) (hi : i < 6) : ∀ (n m : Nat) (M : jM), n ≤ 24576 → n < m → hM q M → nK q P i n M → ∃ N, f_X6_findNeed_L4 m (nI i) (nI P) (tm n) M = some (-1, N) ∧ nK q P i 0 N ∧ (∀ a z, a ≠ 21 → gi N a z = gi M a z) ∧ ∀ a z, gl N a z = gl M a z
  | 0, m, M, hn, hm, hM, hK => by
    obtain ⟨m', rfl⟩ : ∃ m', m = m' + 1 := ⟨m - 1, by omega⟩
    exact ⟨M, rfl, hK, fun _ _ _ => rfl, fun _ _ => rfl⟩
  | x + 1, m, M, hn, hm, hM, hK => by
    obtain ⟨m', rfl⟩ : ∃ m', m = m' + 1 := ⟨m - 1, by omega⟩
    have h6 := hq.1
    have h7 := hq.2.1
    obtain ⟨c1, c2, c3⟩ := m_cd (show x < 24576 by omega)
    have hin : ∃ N z, f_X6_findNeed_L36 jfu (nI P) (nI x) 0 (si M 21 x (if b2 ((x / 3 % 64).testBit i) = 0 then 99 else 0)) = some (z, N) ∧ (∃ v, gi N 21 x = nI v ∧ isN q P i x v) ∧ (∀ a z, ¬ (a = 21 ∧ z = x) → gi N a z = gi M a z) ∧ ∀ a z, gl N a z = gl M a z := by
      cases hb : (x / 3 % 64).testBit i with
      | true =>
        refine ⟨si M 21 x 0, 0, ?_, ⟨0, by rw [gi_si, if_pos ⟨rfl, rfl⟩]; rfl, Or.inl ⟨by decide, hb, fun m hm => absurd hm (Nat.not_lt_zero _)⟩⟩, fun a z hz => by rw [gi_si, if_neg hz], fun _ _ => rfl⟩
        show f_X6_findNeed_L36_b (f_X6_findNeed_L36 29999) _ _ _ (si M 21 x 0) = _
        unfold f_X6_findNeed_L36_b
        rw [show gi (si M 21 x 0) 0 11 = nI (q 0 1) from by rw [gi_si, if_neg (by omega)]; exact hM.2.1, jg_t (jin_nI (show x < 24576 by omega) (by decide)), nI_clamp (show x < 2 ^ 31 by omega), gi_si, if_pos (show 21 = 21 ∧ x = x from ⟨rfl, rfl⟩)]
        split
        · rfl
        · rfl
      | false =>
        have s3 := hM_st (M := M) (M' := si M 21 x 99) (stM_si (o := 21) (k := x) (show (6 : Nat) ≠ 3 by decide)) hM
        obtain ⟨N, w, n1, n2, n3, n4, n5⟩ := m_fn36 (i := i) hq hP (show x < 24576 by omega) (q 0 1) 0 jfu (si M 21 x 99) 99 (by omega) (by unfold jfu; omega) s3 (fun y h1 h2 => by
          rw [gi_si, if_neg (by omega)]; exact hK y h1 h2) (by rw [gi_si, if_pos ⟨rfl, rfl⟩]; rfl) ⟨by decide, by decide, fun z => absurd z (by decide), fun h' e' a1 a2 a3 => by omega⟩
        refine ⟨N, _, n1, ⟨w, n2, ?_⟩, fun a z hz => by rw [n4 a z hz, gi_si, if_neg hz], fun a z => n5 a z⟩
        obtain ⟨j1, j2, j3, j4⟩ := n3
        have no : ∀ m, m < w → ¬ pth q P i m x := by
          intro m hm hp
          cases m with
          | zero =>
            have hp : (x / 3 % 64).testBit i = true := hp
            rw [hb] at hp; exact Bool.false_ne_true hp
          | succ m =>
            obtain ⟨y, ⟨h, e, hh, he, hl, rfl⟩, hy⟩ := hp
            have := j4 h e hh he (Or.inl hh) hl m hy
            omega
        by_cases z : w < 99
        · obtain ⟨y, y1, y2⟩ := j3 z
          refine Or.inl ⟨z, ?_, no⟩
          rw [show w = (w - 1) + 1 by omega]
          exact ⟨y, y1, y2⟩
        · refine Or.inr ⟨by omega, fun m hp => ?_⟩
          have := pth_bd hq m x (by omega) hp
          exact no m (by omega) hp
    obtain ⟨N, z, n1, ⟨v, v1, v2⟩, n3, n4⟩ := hin
    have s3 : stM 3 M N := fun a k ha => ⟨n3 a k (fun z => by rw [z.1] at ha; exact absurd ha (show ¬ (6 : Nat) = 3 by decide)), n4 a k⟩
    obtain ⟨K, k1, k2, k3, k4⟩ := m_fn4 hq hP hi x m' N (by omega) (by omega) (hM_st s3 hM) (fun y h1 h2 => by
      by_cases e : y = x
      · subst e; exact ⟨v, v1, v2⟩
      · rw [n3 _ _ (by omega)]; exact hK y (by omega) h2)
    refine ⟨K, ?_, k2, fun a z hz => (k3 a z hz).trans (n3 a z (fun u => hz u.1)), fun a z => (k4 a z).trans (n4 a z)⟩
    show f_X6_findNeed_L4_b (f_X6_findNeed_L4 m') _ _ _ M = _
    unfold f_X6_findNeed_L4_b
    rw [tmS, if_neg (nI_pos (by omega)), c2, m_has (by omega) (by omega), jb1_e, jlet_e, jg_t (jin_nI (show x < 24576 by omega) (by decide)), nI_clamp (show x < 2 ^ 31 by omega), jlet_e, n1, jb2_e, jlet_e, show nI x + (-1 : Int32) = tm x from (Int32.sub_eq_add_neg ..).symm, k1]
theorem m_need (hq : okP q) (hP : P < 128) (hi : i < 6) (hM' : hM q M) : ∃ N, f_X6_findNeed (nI i) (nI P) M = some N ∧ nK q P i 0 N ∧ (∀ a z, a ≠ 21 → gi N a z = gi M a z) ∧ ∀ a z, gl N a z = gl M a z := by
  obtain ⟨N, n1, n2⟩ := m_fn4 hq hP hi 24576 jfu M (Nat.le_refl _) (by decide) hM' (fun y h1 h2 => by omega)
  have n1 : f_X6_findNeed_L4 jfu (nI i) (nI P) 24575 M = _ := n1
  refine ⟨N, ?_, n2⟩
  unfold f_X6_findNeed
  rw [n1]; rfl
/-! the class's number is the reference's -/
theorem pth_to (hq : okP q) {s : Nat} (hs : s < 192) : ∀ m x, clo (Eg q P) s x → pth q P i m x → ∃ y, clo (Eg q P) s y ∧ (y / 3 % 64).testBit i = true ∧ pc (y / 192) = pc (x / 192) + m
  | 0, x, hx, hp => ⟨x, hx, hp, rfl⟩
  | m + 1, x, hx, ⟨y, hE, hy⟩ => by
    have h1 := eg_pc hq (clo_ok hq hs hx).1 hE
    obtain ⟨z, z1, z2, z3⟩ := pth_to hq hs m y (clo_e hx hE) hy
    exact ⟨z, z1, z2, by omega⟩
theorem clo_pth (hq : okP q) {s y : Nat} (hs : s < 192) (h : clo (Eg q P) s y) : ∀ m, pth q P i m y → pth q P i (pc (y / 192) + m) s := by
  refine (h (fun y => y < 24576 ∧ ∀ m, pth q P i m y → pth q P i (pc (y / 192) + m) s) ⟨by omega, fun m hm => ?_⟩ (fun x z hx hE => ?_)).2
  · rw [show s / 192 = 0 by omega, show pc 0 = 0 from rfl, Nat.zero_add]; exact hm
  · have h1 := eg_pc hq hx.1 hE
    refine ⟨h1.1, fun m hm => ?_⟩
    have := hx.2 (m + 1) ⟨z, hE, hm⟩
    rw [h1.2, Nat.add_right_comm]; exact this
theorem isN_F (hq : okP q) {s : Nat} (hs : s < 192) : isN q P i s (fwl (fun S => cd (dS (clo (Eg q P) s) i S)) pc 99 128) := by
  have hF := fwl_a (p := fun S => cd (dS (clo (Eg q P) s) i S)) (w := pc) (a := 99) 128
  have hFl : ∀ d, fwl (fun S => cd (dS (clo (Eg q P) s) i S)) pc 99 128 ≤ d ↔ 99 ≤ d ∨ ∃ k, k < 128 ∧ cd (dS (clo (Eg q P) s) i k) = true ∧ pc k ≤ d := fun d => fwl_lt 128
  generalize fwl (fun S => cd (dS (clo (Eg q P) s) i S)) pc 99 128 = F at *
  have a1 : ∀ m, pth q P i m s → F ≤ m := by
    intro m hm
    obtain ⟨y, y1, y2, y3⟩ := pth_to hq hs m s clo_s hm
    have hy := (clo_ok hq hs y1).1
    rw [show s / 192 = 0 by omega, show pc 0 = 0 from rfl, Nat.zero_add] at y3
    refine (hFl m).mpr (Or.inr ⟨y / 192, by omega, cd_t.mpr ⟨y / 3 % 64, Nat.mod_lt _ (by decide), ⟨y % 3, Nat.mod_lt _ (by decide), by rw [cs_x]; exact y1⟩, y2⟩, by omega⟩)
  have a2 : ∀ S, S < 128 → dS (clo (Eg q P) s) i S → pth q P i (pc S) s := by
    rintro S hS ⟨D, hD, ⟨g, hg, h⟩, hb⟩
    obtain ⟨c1, c2, c3, c4⟩ := cs_d hS hD hg
    have := clo_pth (i := i) hq hs h 0 (by show (cs S D g / 3 % 64).testBit i = true; rw [c2]; exact hb)
    rw [c1] at this; exact this
  by_cases z : F < 99
  · rcases (hFl F).mp (Nat.le_refl _) with w | ⟨S, s1, s2, s3⟩
    · omega
    · have h1 := a2 S s1 (cd_t.mp s2)
      have h2 := a1 _ h1
      refine Or.inl ⟨z, ?_, fun m hm hp => by have := a1 m hp; omega⟩
      rw [show F = pc S by omega]; exact h1
  · refine Or.inr ⟨by omega, fun m hp => ?_⟩
    have h1 := pth_bd hq m s (by omega) hp
    have h2 := a1 m hp
    omega
end JZ
