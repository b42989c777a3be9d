/-! orders: explore and reach come to the same -/
section JW
variable {q c : Nat → Nat → Nat} {M N K : jM}
def arL (M : jM) (T : Nat → Prop) : Prop := ∀ S D g, S < 128 → D < 64 → g < 3 → (Lb (gl M 66 (S * 3 + g)) D ↔ T (cs S D g))
theorem x_exG (hq : okP q) {P s S g : Nat} (hs : s < 192) (hS : S < 128) (hg : g < 3) (hP : P < 128) (hPh : ∀ h, P.testBit h = true → h < q 0 1) (hx : hX q M) (hp : gi M 65 3 = nI P) (ha : arL M (stg (Eg q P) rk2 s (3 * S + g))) : ∃ N, (if lg_cmp (gl M 66 (S * 3 + g)) 0 = 0 then some M else jb1 (f_X1_spread (nI S) (nI g) M) fun M10 => some M10) = some N ∧ arL N (stg (Eg q P) rk2 s (3 * S + g + 1)) ∧ (∀ a k, gi N a k = gi M a k) ∧ ∀ a k, a ≠ 66 → gl N a k = gl M a k := by
  have hu : ∃ N, (if lg_cmp (gl M 66 (S * 3 + g)) 0 = 0 then some M else jb1 (f_X1_spread (nI S) (nI g) M) fun M10 => some M10) = some N ∧ bitU M N (Zs q P S g (gl M 66 (S * 3 + g))) := by
    by_cases e : gl M 66 (S * 3 + g) = 0
    · rw [if_pos ((jlg_eq _ _).mpr e)]
      refine ⟨M, rfl, bitU_rf (fun z d w => ?_)⟩
      obtain ⟨D, _, _, _, _, _, w, _⟩ := w
      rw [e] at w; exact Lb_0 w
    · rw [if_neg (fun w => e ((jlg_eq _ _).mp w))]
      obtain ⟨N, n1, n2⟩ := x_spread hq hS hg hP hPh hx hp
      exact ⟨N, by rw [n1]; rfl, n2⟩
  obtain ⟨N, n1, n2⟩ := hu
  refine ⟨N, n1, fun S' D' g' hS' hD' hg' => ?_, n2.2⟩
  rw [n2.1, ha S' D' g' hS' hD' hg']
  refine or_congr Iff.rfl ⟨?_, ?_⟩
  · rintro ⟨D, h, e, hD, hh, he, w1, w2, w3, w4⟩
    obtain ⟨c1, c2, c3, c4⟩ := cs_d hS hD hg
    refine ⟨cs S D g, by unfold rk2; rw [c1, c3], (ha S D g hS hD hg).mp w1, h, e, hh, he, w2, ?_⟩
    have g1 := gpb_le (q := q) g e
    unfold bhx
    rw [c1, c2, c3, ← w4]
    have hs3 : S' = S ||| 2 ^ h ∧ g' = gpb q g e := by omega
    rw [← hs3.1, ← hs3.2]; rfl
  · rintro ⟨x, hx1, hx2, h, e, hh, he, w2, w3⟩
    have hlt := stg_lt hq hs hx2
    unfold rk2 at hx1
    have e1 : x / 192 = S := by omega
    have e2 : x % 3 = g := by omega
    have hxc := cs_x x
    rw [e1, e2] at hxc
    have hD : x / 3 % 64 < 64 := Nat.mod_lt _ (by decide)
    refine ⟨x / 3 % 64, h, e, hD, hh, he, (ha S _ g hS hD hg).mpr (by rw [hxc]; exact hx2), by rw [hxc]; exact w2, ?_, ?_⟩
    · have g1 := gpb_le (q := q) g e
      have g2 := dbt_or (D := x / 3 % 64) (e := e) hD (by have := hq.1; omega)
      unfold bhx cs at w3
      rw [e1, e2] at w3
      omega
    · have g1 := gpb_le (q := q) g e
      have g2 := dbt_or (D := x / 3 % 64) (e := e) hD (by have := hq.1; omega)
      unfold bhx cs at w3
      rw [e1, e2] at w3
      omega
theorem x_ex41 (hq : okP q) {P s S : Nat} (hs : s < 192) (hS : S < 128) (hP : P < 128) (hPh : ∀ h, P.testBit h = true → h < q 0 1) : ∀ (r g m : Nat) (M : jM), g + r = 3 → r < m → hX q M → gi M 65 3 = nI P → arL M (stg (Eg q P) rk2 s (3 * S + g)) → ∃ N, f_X1_explore_L41 m (nI S) (nI g) M = some (nI 3, N) ∧ arL N (stg (Eg q P) rk2 s (3 * S + 3)) ∧ (∀ a k, gi N a k = gi M a k) ∧ ∀ a k, a ≠ 66 → gl N a k = gl M a k
  | 0, g, m, M, hg, hm, hx, hp, ha => by
    obtain ⟨m', rfl⟩ : ∃ m', m = m' + 1 := ⟨m - 1, by omega⟩
    have e : g = 3 := by omega
    subst e
    exact ⟨M, rfl, ha, fun _ _ => rfl, fun _ _ _ => rfl⟩
  | r + 1, g, m, M, hg, hm, hx, hp, ha => by
    obtain ⟨m', rfl⟩ : ∃ m', m = m' + 1 := ⟨m - 1, by omega⟩
    obtain ⟨N, n1, n2, n3, n4⟩ := x_exG hq hs hS (show g < 3 by omega) hP hPh hx hp ha
    have st : ∀ j, j ≠ 6 → stX j M N := fun j hj a k ha => ⟨n3 a k, n4 a k (fun w => hj (by rw [← ha, w]; rfl))⟩
    obtain ⟨K, k1, k2, k3, k4⟩ := x_ex41 hq hs hS hP hPh r (g + 1) m' N (by omega) (by omega) (hX_st (st 3 (by decide)) hx) (by rw [n3]; exact hp) n2
    refine ⟨K, ?_, k2, fun a k => (k3 a k).trans (n3 a k), fun a k ha => (k4 a k ha).trans (n4 a k ha)⟩
    show f_X1_explore_L41_b (f_X1_explore_L41 m') _ _ M = _
    unfold f_X1_explore_L41_b
    rw [if_neg (show ¬ (3 : Int32) ≤ nI g from nI_ge (b := 3) (by omega) (by decide)), show (3 : Int32) = nI 3 from rfl, pk_mul, nI_add, jg_t (jin_nI (show S * 3 + g < 384 by omega) (by decide)), nI_clamp (show S * 3 + g < 2 ^ 31 by omega), n1, jb1_e, jlet_e, nI_1, k1]
theorem x_ex31 (hq : okP q) {P s : Nat} (hs : s < 192) (hP : P < 128) (hPh : ∀ h, P.testBit h = true → h < q 0 1) : ∀ (r S m : Nat) (M : jM), S + r = 128 → r < m → hX q M → gi M 65 3 = nI P → arL M (stg (Eg q P) rk2 s (3 * S)) → ∃ N, f_X1_explore_L31 m (nI S) M = some (nI 128, N) ∧ arL N (stg (Eg q P) rk2 s 384) ∧ (∀ a k, gi N a k = gi M a k) ∧ ∀ a k, a ≠ 66 → gl N a k = gl M a k
  | 0, S, m, M, hg, hm, hx, hp, ha => by
    obtain ⟨m', rfl⟩ : ∃ m', m = m' + 1 := ⟨m - 1, by omega⟩
    have e : S = 128 := by omega
    subst e
    exact ⟨M, rfl, ha, fun _ _ => rfl, fun _ _ _ => rfl⟩
  | r + 1, S, m, M, hg, hm, hx, hp, ha => by
    obtain ⟨m', rfl⟩ : ∃ m', m = m' + 1 := ⟨m - 1, by omega⟩
    obtain ⟨N, n1, n2, n3, n4⟩ := x_ex41 hq hs (show S < 128 by omega) hP hPh 3 0 jfu M rfl (by decide) hx hp ha
    have n1 : f_X1_explore_L41 jfu (nI S) 0 M = _ := n1
    have st : ∀ j, j ≠ 6 → stX j M N := fun j hj a k ha => ⟨n3 a k, n4 a k (fun w => hj (by rw [← ha, w]; rfl))⟩
    obtain ⟨K, k1, k2, k3, k4⟩ := x_ex31 hq hs hP hPh r (S + 1) m' N (by omega) (by omega) (hX_st (st 3 (by decide)) hx) (by rw [n3]; exact hp) (by rw [show 3 * (S + 1) = 3 * S + 3 by omega]; exact n2)
    refine ⟨K, ?_, k2, fun a k => (k3 a k).trans (n3 a k), fun a k ha => (k4 a k ha).trans (n4 a k ha)⟩
    show f_X1_explore_L31_b (f_X1_explore_L31 m') _ M = _
    unfold f_X1_explore_L31_b
    rw [if_neg (show ¬ (128 : Int32) ≤ nI S from nI_ge (b := 128) (by omega) (by decide)), n1, jb2_e, jlet_e, nI_1, k1]
def lff (M : jM) (o i n : Nat) (v : Int64) : jM := (M.1, fun a k => if a = o ∧ i ≤ k ∧ k < n then v else M.2 a k)
theorem gl_lff (M : jM) (o i n : Nat) (v : Int64) (a k : Nat) : gl (lff M o i n v) a k = if a = o ∧ i ≤ k ∧ k < n then v else gl M a k := rfl
theorem gi_lff (M : jM) (o i n : Nat) (v : Int64) (a k : Nat) : gi (lff M o i n v) a k = gi M a k := rfl
theorem lff_step (M : jM) (o i n : Nat) (v : Int64) (h : i < n) : lff (sl M o i v) o (i + 1) n v = lff M o i n v := by
  unfold lff sl
  refine Prod.ext rfl (funext fun a => funext fun k => ?_)
  show (if a = o ∧ i + 1 ≤ k ∧ k < n then v else if a = o ∧ k = i then v else M.2 a k) = if a = o ∧ i ≤ k ∧ k < n then v else M.2 a k
  by_cases ha : a = o
  · by_cases hk : k = i
    · subst hk; simp [ha, h]
    · by_cases h2 : i + 1 ≤ k ∧ k < n
      · rw [if_pos ⟨ha, h2⟩, if_pos ⟨ha, by omega, h2.2⟩]
      · rw [if_neg (fun q => h2 q.2), if_neg (fun q => hk q.2), if_neg (fun q => h2 ⟨by omega, q.2.2⟩)]
  · simp [ha]
theorem lff_end (M : jM) (o n : Nat) (v : Int64) : lff M o n n v = M := by
  unfold lff
  refine Prod.ext rfl (funext fun a => funext fun k => ?_)
  show (if a = o ∧ n ≤ k ∧ k < n then v else M.2 a k) = M.2 a k
  rw [if_neg (by omega)]
theorem lfill_loop (o n : Nat) (v : Int64) (hn : n < 2 ^ 31) : ∀ (m i : Nat) (M : jM), i ≤ n → n - i < m → f_J7_fill_d0a16_L6 o n m v (nI i) (nI n) M = some (nI n, lff M o i n v)
  | 0, i, M, _, h => absurd h (Nat.not_lt_zero _)
  | m + 1, i, M, hi, h => by
    show f_J7_fill_d0a16_L6_b o n (f_J7_fill_d0a16_L6 o n m) v (nI i) (nI n) M = _
    unfold f_J7_fill_d0a16_L6_b
    by_cases hlt : i < n
    · rw [if_neg (nI_ge hlt hn), jin_nI hlt hn]
      show f_J7_fill_d0a16_L6 o n m v (nI i + 1) (nI n) (sl M o (nI i).toNatClampNeg v) = _
      rw [nI_1, nI_clamp (by omega), lfill_loop o n v hn m (i + 1) _ hlt (by omega), lff_step M o i n v hlt]
    · have e : i = n := by omega
      subst e
      rw [if_pos (nI_le (Nat.le_refl _) hn), lff_end]
theorem lfill_ok {o n : Nat} {v : Int64} {M : jM} (hn : n < 30000) : f_J7_fill_d0a16 o n v M = some (lff M o 0 n v) := by
  unfold f_J7_fill_d0a16
  show jb2 (f_J7_fill_d0a16_L6 o n jfu v 0 (nI n) M) _ = _
  rw [show (0 : Int32) = nI 0 from rfl, lfill_loop o n v (by omega) jfu 0 M (Nat.zero_le _) (by unfold jfu; omega)]
  rfl
theorem one_shl : ∀ d, d < 64 → ∀ D, D < 64 → ((1 : Int64) <<< ((nI d).toInt64 &&& 63)).toBitVec.getLsbD D = decide (D = d) := by decide +kernel
theorem eg1 {P : Nat} : ∀ x y, Eg q P x y → x < y := fun _ _ h => (eg_rk h).1
theorem eg2 {P : Nat} : ∀ x y, Eg q P x y → rk2 x < rk2 y := fun _ _ h => (eg_rk h).2
/-- where an order begins -/
def s0 (q c : Nat → Nat → Nat) : Nat := cs 0 (vec q c (c 1 0) 3) (if 2 < vec q c (c 1 0) 4 then 2 else vec q c (c 1 0) 4)
theorem g0_le (v : Nat) : (if 2 < v then 2 else v) < 3 := by split <;> omega
theorem s0_lt (hq : okP q) (hc : okC q c) : s0 q c < 192 := by
  have b := vbd hq hc
  have := g0_le (vec q c (c 1 0) 4)
  unfold s0 cs
  omega
/-- the class behind explore -/
def rX (q : Nat → Nat → Nat) (P s : Nat) (M : jM) : Prop := ∀ S D g, S < 128 → D < 64 → g < 3 → (Lb (gl M 66 (S * 3 + g)) D ↔ clo (Eg q P) s (cs S D g))
theorem x_explore (H : CX q c M) {P : Nat} (hP : P < 128) (hPh : ∀ h, P.testBit h = true → h < q 0 1) : ∃ N, f_X1_explore (nI P) M = some N ∧ rX q P (s0 q c) N ∧ ord P 0 (if 2 < vec q c (c 1 0) 4 then 2 else vec q c (c 1 0) 4) (vec q c (c 1 0) 3) N ∧ (∀ a k, a ≠ 65 → gi N a k = gi M a k) ∧ ∀ a k, a ≠ 66 → gl N a k = gl M a k := by
  have b := vbd H.1 H.2.2.1
  have hg := g0_le (vec q c (c 1 0) 4)
  have hs := s0_lt H.1 H.2.2.1
  obtain ⟨N, n1, n2, n3, n4⟩ := x_start H (P := P)
  generalize hG : (if 2 < vec q c (c 1 0) 4 then 2 else vec q c (c 1 0) 4) = g at *
  have hx : hX q (sl (lff N 66 0 384 0) 66 g ((1 : Int64) <<< ((nI (vec q c (c 1 0) 3)).toInt64 &&& 63))) := by
    refine hX_st (M := M) (fun a k ha => ?_) H.2.1
    have h66 : a ≠ 66 := fun w => by rw [w] at ha; exact absurd ha (by decide)
    have h65 : a ≠ 65 := fun w => by rw [w] at ha; exact absurd ha (by decide)
    refine ⟨n3 a k h65, ?_⟩
    rw [gl_sl, if_neg (fun w => h66 w.1), gl_lff, if_neg (fun w => h66 w.1), n4]
  have ha : arL (sl (lff N 66 0 384 0) 66 g ((1 : Int64) <<< ((nI (vec q c (c 1 0) 3)).toInt64 &&& 63))) (stg (Eg q P) rk2 (s0 q c) (3 * 0)) := by
    intro S D g' hS hD hg'
    rw [gl_sl, gl_lff]
    show _ ↔ cs S D g' = s0 q c
    unfold s0
    rw [hG]
    by_cases e : S * 3 + g' = g
    · rw [if_pos ⟨rfl, e⟩]
      unfold Lb
      rw [one_shl _ b.2.2.2.1 D hD, decide_eq_true_eq]
      unfold cs
      omega
    · rw [if_neg (fun w => e w.2), if_pos ⟨rfl, by omega, by omega⟩]
      refine ⟨fun w => absurd w Lb_0, fun w => ?_⟩
      unfold cs at w
      omega
  obtain ⟨K, k1, k2, k3, k4⟩ := x_ex31 H.1 hs hP hPh 128 0 jfu _ rfl (by decide) hx (n2.1 : gi (sl (lff N 66 0 384 0) 66 g ((1 : Int64) <<< ((nI (vec q c (c 1 0) 3)).toInt64 &&& 63))) 65 3 = nI P) ha
  have k1 : f_X1_explore_L31 jfu 0 (sl (lff N 66 0 384 0) 66 g ((1 : Int64) <<< ((nI (vec q c (c 1 0) 3)).toInt64 &&& 63))) = _ := k1
  refine ⟨K, ?_, fun S D g' hS hD hg' => ?_, ⟨?_, ?_, ?_, ?_⟩, fun a k ha => (k3 a k).trans (n3 a k ha), fun a k ha => ?_⟩
  · unfold f_X1_explore
    rw [n1, jb1_e, lfill_ok (by decide), jb1_e, show gi (lff N 66 0 384 0) 65 5 = nI g from n2.2.2.1, show gi (lff N 66 0 384 0) 65 6 = nI (vec q c (c 1 0) 3) from n2.2.2.2, jg_t (jin_nI (show g < 384 by omega) (by decide)), nI_clamp (show g < 2 ^ 31 by omega), jlet_e, k1]
    rfl
  · rw [k2 S D g' hS hD hg']
    refine ⟨stg_clo _ _, clo_stg eg2 (fun y hy => ?_)⟩
    have := stg_lt H.1 hs hy
    unfold rk2; omega
  · rw [k3]; exact n2.1
  · rw [k3]; exact n2.2.1
  · rw [k3]; exact n2.2.2.1
  · rw [k3]; exact n2.2.2.2
  · rw [k4 a k ha, gl_sl, if_neg (fun w => ha w.1), gl_lff, if_neg (fun w => ha w.1), n4]
/-! the reference -/
def tm (e : Nat) : Int32 := nI e - 1
theorem tm0 : tm 0 = -1 := rfl
theorem tmS (i : Nat) : tm (i + 1) = nI i := nI_pred i
theorem tm1 (e : Nat) : tm e + 1 = tm (e + 1) := by rw [tmS]; unfold tm; exact Int32.sub_add_cancel ..
theorem m_cd {x : Nat} (hx : x < 24576) : nI x / (192 : Int32) = nI (x / 192) ∧ nI x / (3 : Int32) - nI x / (3 : Int32) / (64 : Int32) * (64 : Int32) = nI (x / 3 % 64) ∧ nI x - nI x / (3 : Int32) * (3 : Int32) = nI (x % 3) := by
  refine ⟨pk_div (d := 192) (by omega) (by decide) (by decide), ?_, pk_rem (d := 3) (by omega) (by decide) (by decide)⟩
  rw [show nI x / (3 : Int32) = nI (x / 3) from pk_div (d := 3) (by omega) (by decide) (by decide)]
  exact pk_rem (d := 64) (by omega) (by decide) (by decide)
theorem m_leads (hq : okP q) (hm : hM q M) {P x h e : Nat} (hP : P < 128) (hx : x < 24576) (hh : h < q 0 1) (he : e ≤ q 0 0) : f_X6_leads (nI x) (nI h) (tm e) (nI P) M = some (b2 (ldx q P x h e)) := by
  have h6 := hq.1
  have h7 := hq.2.1
  obtain ⟨c1, c2, c3⟩ := m_cd hx
  unfold f_X6_leads ldx
  rw [c1, c2, c3, m_has (by omega) (by omega), jb1_e, b2_if, m_has (by omega) (by omega), jb1_e, b2_if]
  cases P.testBit h with
  | false => rfl
  | true =>
    cases (x / 192).testBit h with
    | true => rfl
    | false =>
      cases e with
      | zero => rfl
      | succ i =>
        rw [tmS, if_pos rfl, if_neg Bool.false_ne_true, if_neg (nI_pos (by omega)), m_can hq hm (by omega) hh (by omega) (by omega), jb1_e, b2_if, Nat.add_sub_cancel]
        simp only [show ¬ i + 1 = 0 by omega, decide_false, Bool.false_or, Bool.true_and, Bool.not_false]
        exact jb2s _
theorem m_case {S D s : Nat} (hs : s < 2 ^ 31) : f_X6_caseOf (nI S) (nI D) (nI s) M = some (nI (192 * S + 3 * D + (if 2 < s then 2 else s))) := by
  unfold f_X6_caseOf
  rw [jlet_e, show (192 : Int32) * nI S = nI (192 * S) from pk_mul 192 S, show (3 : Int32) * nI D = nI (3 * D) from pk_mul 3 D, nI_add]
  by_cases e : 2 < s
  · rw [if_neg (show ¬ nI s ≤ (2 : Int32) from nI_ge (a := 2) e hs), if_pos e]; exact congrArg some (nI_add _ 2)
  · rw [if_pos (show nI s ≤ (2 : Int32) from nI_le (b := 2) (by omega) (by decide)), if_neg e, nI_add]
theorem m_behind (hq : okP q) (hm : hM q M) {x h e : Nat} (hx : x < 24576) (hh : h < q 0 1) (he : e ≤ q 0 0) : f_X6_behind (nI x) (nI h) (tm e) M = some (nI (bhx q x h e)) := by
  have h6 := hq.1
  have h7 := hq.2.1
  obtain ⟨c1, c2, c3⟩ := m_cd hx
  unfold f_X6_behind bhx gpb dbt
  rw [c1, c2, c3, jshl h (by omega), jor, nI_1]
  cases e with
  | zero =>
    rw [tm0, if_neg (by decide), if_pos (show (-1 : Int32) < 0 by decide), jlet_e, jlet_e, jb1_e, show (0 : Int32) = nI 0 from rfl, jor, m_case (by omega), jb1_e, if_pos rfl, if_neg (show ¬ ((0 : Nat) ≠ 0 ∧ isk (q 1 (0 - 1)) 1 = true) from fun w => w.1 rfl)]
  | succ i =>
    rw [tmS, if_pos (nI_pos' (by omega)), if_neg (nI_pos (by omega)), jlet_e, jlet_e, jshl i (by omega), jor, jg_t (jin_nI (show i < 6 by omega) (by decide)), nI_clamp (show i < 2 ^ 31 by omega), (hm.2.2.1 i (by omega)).1, show f_X6_isKind (nI (q 1 i)) 1 M = some (b2 (isk (q 1 i) 1)) from m_isKind (k := 1) (hq.2.2.2.1 i (by omega)).1 (by decide), jb1_e, b2_if, if_neg (show ¬ i + 1 = 0 by omega), Nat.add_sub_cancel]
    cases isk (q 1 i) 1 with
    | true =>
      rw [if_pos rfl, jb1_e, show (0 : Int32) = nI 0 from rfl, m_case (by decide), jb1_e, if_neg (show ¬ 2 < 0 by omega), if_pos (show (i + 1 ≠ 0 ∧ true = true) from ⟨by omega, rfl⟩)]
    | false =>
      rw [if_neg Bool.false_ne_true, jb1_e, m_case (by omega), jb1_e, if_neg (show ¬ (i + 1 ≠ 0 ∧ false = true) from fun w => Bool.false_ne_true w.2)]
theorem m_begin (H : CM q c M) : f_X6_begin M = some (nI (s0 q c)) := by
  have b := vbd H.1 H.2.2.1
  unfold f_X6_begin s0
  rw [m12_3 H, m12_4 H, show (0 : Int32) = nI 0 from rfl, m_case (by omega)]
  rfl
def upR (M N : jM) (Y : Nat → Prop) : Prop := (∀ y, (Y y → gi N 20 y = 1) ∧ (¬ Y y → gi N 20 y = gi M 20 y)) ∧ (∀ a k, a ≠ 20 → gi N a k = gi M a k) ∧ ∀ a k, gl N a k = gl M a k
theorem upR_rf {Y : Nat → Prop} (h : ∀ y, ¬ Y y) : upR M M Y := ⟨fun y => ⟨fun w => absurd w (h y), fun _ => rfl⟩, fun _ _ _ => rfl, fun _ _ => rfl⟩
theorem upR_tr {Y Z X : Nat → Prop} (h1 : upR M N Y) (h2 : upR N K Z) (e : ∀ y, X y ↔ Y y ∨ Z y) : upR M K X := by
  refine ⟨fun y => ⟨fun w => ?_, fun w => ?_⟩, fun a k ha => (h2.2.1 a k ha).trans (h1.2.1 a k ha), fun a k => (h2.2.2 a k).trans (h1.2.2 a k)⟩
  · by_cases z : Z y
    · exact (h2.1 y).1 z
    · rw [(h2.1 y).2 z]; exact (h1.1 y).1 (((e y).mp w).resolve_right z)
  · rw [(h2.1 y).2 (fun z => w ((e y).mpr (Or.inr z))), (h1.1 y).2 (fun z => w ((e y).mpr (Or.inl z)))]
theorem upR_si {z : Nat} : upR M (si M 20 z 1) (fun y => y = z) := by
  refine ⟨fun y => ⟨fun w => ?_, fun w => ?_⟩, fun a k ha => ?_, fun _ _ => rfl⟩
  · rw [w, gi_si, if_pos ⟨rfl, rfl⟩]
  · rw [gi_si, if_neg (fun u => w u.2)]
  · rw [gi_si, if_neg (fun u => ha u.1)]
theorem upR_st {Y : Nat → Prop} (h : upR M N Y) {j : Nat} (hj : j ≠ 6) : stM j M N := fun a k ha => ⟨h.2.1 a k (fun w => hj (by rw [← ha, w]; rfl)), h.2.2 a k⟩
theorem m_r63 (hq : okP q) {P x h : Nat} (hP : P < 128) (hx : x < 24576) (hh : h < q 0 1) : ∀ (r e m : Nat) (M : jM), e + r = q 0 0 + 1 → r < m → hM q M → ∃ N, f_X6_reach_L63 m (nI P) (nI x) (nI h) (tm e) M = some (nI (q 0 0), N) ∧ upR M N (fun y => ∃ e', e ≤ e' ∧ e' ≤ q 0 0 ∧ ldx q P x h e' = true ∧ y = bhx q x h e')
  | 0, e, m, M, he, hm, hM => by
    obtain ⟨m', rfl⟩ : ∃ m', m = m' + 1 := ⟨m - 1, by omega⟩
    have h6 := hq.1
    refine ⟨M, ?_, upR_rf (fun y w => ?_)⟩
    · show f_X6_reach_L63_b (f_X6_reach_L63 m') _ _ _ _ M = _
      unfold f_X6_reach_L63_b
      rw [show e = q 0 0 + 1 by omega, tmS, hM.1, if_pos (nI_le (Nat.le_refl _) (by omega))]
    · obtain ⟨e', h1, h2, _⟩ := w; omega
  | r + 1, e, m, M, he, hm, hM => by
    obtain ⟨m', rfl⟩ : ∃ m', m = m' + 1 := ⟨m - 1, by omega⟩
    have h6 := hq.1
    have hge : ¬ nI (q 0 0) ≤ tm e := by
      cases e with
      | zero => rw [tm0]; exact fun w => by
                  rw [Int32.le_iff_toInt_le, nI_toInt (by omega)] at w
                  have : (-1 : Int32).toInt = -1 := rfl
                  omega
      | succ i => rw [tmS]; exact nI_ge (by omega) (by omega)
    have hst : ∃ N, (if b2 (ldx q P x h e) = 0 then some M else jb1 (f_X6_behind (nI x) (nI h) (tm e) M) fun r13 => jg (jin r13 24576) (jlet (si M 20 r13.toNatClampNeg (vp_nar .boolean (1 : Int32))) fun M16 => some M16)) = some N ∧ upR M N (fun y => ldx q P x h e = true ∧ y = bhx q x h e) := by
      rw [b2_if]
      cases hl : ldx q P x h e with
      | false => exact ⟨M, if_neg Bool.false_ne_true, upR_rf (fun y w => Bool.false_ne_true w.1)⟩
      | true =>
        have hb := eg_lt hq hx ⟨h, e, hh, by omega, hl, rfl⟩
        rw [if_pos rfl, m_behind hq hM hx hh (by omega), jb1_e, jg_t (jin_nI hb (by decide)), nI_clamp (by omega), jlet_e, vnb1]
        refine ⟨_, rfl, ?_⟩
        have u := upR_si (M := M) (z := bhx q x h e)
        refine ⟨fun y => ⟨fun w => (u.1 y).1 w.2, fun w => (u.1 y).2 (fun z => w ⟨rfl, z⟩)⟩, u.2⟩
    obtain ⟨N, n1, n2⟩ := hst
    obtain ⟨K, k1, k2⟩ := m_r63 hq hP hx hh r (e + 1) m' N (by omega) (by omega) (hM_st (upR_st n2 (by decide)) hM)
    refine ⟨K, ?_, upR_tr n2 k2 (fun y => ?_)⟩
    · show f_X6_reach_L63_b (f_X6_reach_L63 m') _ _ _ _ M = _
      unfold f_X6_reach_L63_b
      rw [hM.1, if_neg hge, m_leads hq hM hP hx hh (by omega), jb1_e, n1, jb1_e, jlet_e, tm1, k1]
    · constructor
      · rintro ⟨e', h1, h2, h3, h4⟩
        by_cases w : e' = e
        · subst w; exact Or.inl ⟨h3, h4⟩
        · exact Or.inr ⟨e', by omega, h2, h3, h4⟩
      · rintro (⟨h3, h4⟩ | ⟨e', h1, h2, h3, h4⟩)
        · exact ⟨e, Nat.le_refl _, by omega, h3, h4⟩
        · exact ⟨e', by omega, h2, h3, h4⟩
theorem m_r52 (hq : okP q) {P x : Nat} (hP : P < 128) (hx : x < 24576) : ∀ (r h m : Nat) (M : jM), h + r = q 0 1 → r < m → hM q M → ∃ N, f_X6_reach_L52 m (nI P) (nI x) (nI h) M = some (nI (q 0 1), N) ∧ upR M N (fun y => ∃ h' e', h ≤ h' ∧ h' < q 0 1 ∧ e' ≤ q 0 0 ∧ ldx q P x h' e' = true ∧ y = bhx q x h' e')
  | 0, h, m, M, he, hm, hM => by
    obtain ⟨m', rfl⟩ : ∃ m', m = m' + 1 := ⟨m - 1, by omega⟩
    have h7 := hq.2.1
    refine ⟨M, ?_, upR_rf (fun y w => ?_)⟩
    · show f_X6_reach_L52_b (f_X6_reach_L52 m') _ _ _ M = _
      unfold f_X6_reach_L52_b
      rw [show h = q 0 1 by omega, hM.2.1, if_pos (nI_le (Nat.le_refl _) (by omega))]
    · obtain ⟨h', e', h1, h2, _⟩ := w; omega
  | r + 1, h, m, M, he, hm, hM => by
    obtain ⟨m', rfl⟩ : ∃ m', m = m' + 1 := ⟨m - 1, by omega⟩
    have h7 := hq.2.1
    obtain ⟨N, n1, n2⟩ := m_r63 hq hP hx (show h < q 0 1 by omega) (q 0 0 + 1) 0 jfu M (by omega) (by have := hq.1; unfold jfu; omega) hM
    rw [tm0] at n1
    obtain ⟨K, k1, k2⟩ := m_r52 hq hP hx r (h + 1) m' N (by omega) (by omega) (hM_st (upR_st n2 (by decide)) hM)
    refine ⟨K, ?_, upR_tr n2 k2 (fun y => ?_)⟩
    · show f_X6_reach_L52_b (f_X6_reach_L52 m') _ _ _ M = _
      unfold f_X6_reach_L52_b
      rw [hM.2.1, if_neg (nI_ge (show h < q 0 1 by omega) (by omega)), n1, jb2_e, jlet_e, nI_1, k1]
    · constructor
      · rintro ⟨h', e', h1, h2, h3, h4, h5⟩
        by_cases w : h' = h
        · subst w; exact Or.inl ⟨e', Nat.zero_le _, h3, h4, h5⟩
        · exact Or.inr ⟨h', e', by omega, h2, h3, h4, h5⟩
      · rintro (⟨e', _, h3, h4, h5⟩ | ⟨h', e', h1, h2, h3, h4, h5⟩)
        · exact ⟨h, e', Nat.le_refl _, by omega, h3, h4, h5⟩
        · exact ⟨h', e', by omega, h2, h3, h4, h5⟩
def arR (M : jM) (T : Nat → Prop) : Prop := ∀ y, y < 24576 → (T y → gi M 20 y = 1) ∧ (¬ T y → gi M 20 y = 0)
theorem m_r34 (hq : okP q) {P s : Nat} (hP : P < 128) (hs : s < 192) : ∀ (r x m : Nat) (M : jM), x + r = 24576 → r < m → hM q M → arR M (stg (Eg q P) (fun z => z) s x) → ∃ N, f_X6_reach_L34 m (nI P) (nI x) M = some (nI 24576, N) ∧ arR N (stg (Eg q P) (fun z => z) s 24576) ∧ (∀ a k, a ≠ 20 → gi N a k = gi M a k) ∧ ∀ a k, gl N a k = gl M a k
  | 0, x, m, M, he, hm, hM, ha => by
    obtain ⟨m', rfl⟩ : ∃ m', m = m' + 1 := ⟨m - 1, by omega⟩
    have e : x = 24576 := by omega
    subst e
    exact ⟨M, by
      show f_X6_reach_L34_b (f_X6_reach_L34 m') _ _ M = _
      unfold f_X6_reach_L34_b
      rw [if_pos (show (24576 : Int32) ≤ nI 24576 from nI_le (a := 24576) (Nat.le_refl _) (by decide))], ha, fun _ _ _ => rfl, fun _ _ => rfl⟩
  | r + 1, x, m, M, he, hm, hM, ha => by
    obtain ⟨m', rfl⟩ : ∃ m', m = m' + 1 := ⟨m - 1, by omega⟩
    have hst : ∃ N, (if gi M 20 x = 0 then some M else jb2 (f_X6_reach_L52 jfu (nI P) (nI x) 0 M) fun v11 M12 => some M12) = some N ∧ upR M N (fun y => stg (Eg q P) (fun z => z) s x x ∧ Eg q P x y) := by
      by_cases w : stg (Eg q P) (fun z => z) s x x
      · rw [if_neg (by rw [(ha x (by omega)).1 w]; exact j10)]
        obtain ⟨N, n1, n2⟩ := m_r52 hq hP (show x < 24576 by omega) (q 0 1) 0 jfu M (by omega) (by have := hq.2.1; unfold jfu; omega) hM
        have n1 : f_X6_reach_L52 jfu (nI P) (nI x) 0 M = _ := n1
        refine ⟨N, by rw [n1]; rfl, ?_⟩
        refine upR_tr (upR_rf (Y := fun _ => False) (fun _ w => w)) n2 (fun y => ⟨?_, ?_⟩)
        · rintro ⟨_, h, e, h1, h2, h3, h4⟩
          exact Or.inr ⟨h, e, Nat.zero_le _, h1, h2, h3, h4⟩
        · rintro (w' | ⟨h, e, _, h1, h2, h3, h4⟩)
          · exact absurd w' (fun w => w)
          · exact ⟨w, h, e, h1, h2, h3, h4⟩
      · rw [if_pos ((ha x (by omega)).2 w)]
        exact ⟨M, rfl, upR_rf (fun y u => w u.1)⟩
    obtain ⟨N, n1, n2⟩ := hst
    have ha2 : arR N (stg (Eg q P) (fun z => z) s (x + 1)) := by
      intro y hy
      have e1 : stg (Eg q P) (fun z => z) s (x + 1) y ↔ stg (Eg q P) (fun z => z) s x y ∨ (stg (Eg q P) (fun z => z) s x x ∧ Eg q P x y) := by
        show (_ ∨ ∃ z, z = x ∧ _) ↔ _
        refine or_congr Iff.rfl ⟨?_, ?_⟩
        · rintro ⟨z, rfl, h⟩; exact h
        · intro h; exact ⟨x, rfl, h⟩
      rw [e1]
      by_cases z : stg (Eg q P) (fun z => z) s x x ∧ Eg q P x y
      · exact ⟨fun _ => (n2.1 y).1 z, fun w => absurd (Or.inr z) w⟩
      · rw [(n2.1 y).2 z]
        exact ⟨fun w => (ha y hy).1 (w.resolve_right z), fun w => (ha y hy).2 (fun u => w (Or.inl u))⟩
    obtain ⟨K, k1, k2, k3, k4⟩ := m_r34 hq hP hs r (x + 1) m' N (by omega) (by omega) (hM_st (upR_st n2 (by decide)) hM) ha2
    refine ⟨K, ?_, k2, fun a k ha => (k3 a k ha).trans (n2.2.1 a k ha), fun a k => (k4 a k).trans (n2.2.2 a k)⟩
    show f_X6_reach_L34_b (f_X6_reach_L34 m') _ _ M = _
    unfold f_X6_reach_L34_b
    rw [if_neg (show ¬ (24576 : Int32) ≤ nI x from nI_ge (b := 24576) (by omega) (by decide)), jg_t (jin_nI (show x < 24576 by omega) (by decide)), nI_clamp (show x < 2 ^ 31 by omega), n1, jb1_e, jlet_e, nI_1, k1]
theorem m_r2 : ∀ (m i : Nat) (M : jM), i ≤ 24576 → 24576 - i < m → f_X6_reach_L2 m (nI i) M = some (nI 24576, jff M 20 i 24576 0)
  | 0, i, M, _, h => absurd h (Nat.not_lt_zero _)
  | m + 1, i, M, hi, h => by
    show f_X6_reach_L2_b (f_X6_reach_L2 m) (nI i) M = _
    unfold f_X6_reach_L2_b
    by_cases hlt : i < 24576
    · rw [if_neg (show ¬ (24576 : Int32) ≤ nI i from nI_ge (b := 24576) hlt (by decide)), jg_t (jin_nI hlt (by decide)), nI_clamp (by omega), jlet_e, jlet_e, nI_1, vnb0, m_r2 m (i + 1) _ hlt (by omega), jff_step M 20 i 24576 0 hlt]
    · have e : i = 24576 := by omega
      rw [e, if_pos (show (24576 : Int32) ≤ nI 24576 from nI_le (a := 24576) (Nat.le_refl _) (by decide)), jff_end]
/-- the reference behind reach -/
def rM (q : Nat → Nat → Nat) (P s : Nat) (M : jM) : Prop := arR M (clo (Eg q P) s)
theorem m_reach (H : CM q c M) {P : Nat} (hP : P < 128) : ∃ N, f_X6_reach (nI P) M = some N ∧ rM q P (s0 q c) N ∧ (∀ a k, a ≠ 20 → gi N a k = gi M a k) ∧ ∀ a k, gl N a k = gl M a k := by
  have hs := s0_lt H.1 H.2.2.1
  have z : f_X6_reach_L2 jfu 0 M = some (nI 24576, jff M 20 0 24576 0) := m_r2 jfu 0 M (by decide) (by decide)
  have f0 : ∀ a k, a ≠ 20 → gi (jff M 20 0 24576 0) a k = gi M a k := fun a k ha => by rw [gi_jff, if_neg (fun w => ha w.1)]
  have s6 : ∀ j, j ≠ 6 → stM j M (jff M 20 0 24576 0) := fun j hj a k ha => ⟨f0 a k (fun w => hj (by rw [← ha, w]; rfl)), rfl⟩
  have HC : CM q c (jff M 20 0 24576 0) := ⟨H.1, hM_st (s6 3 (by decide)) H.2.1, H.2.2.1, cM_st (s6 4 (by decide)) H.2.2.2⟩
  have ha : arR (si (jff M 20 0 24576 0) 20 (s0 q c) 1) (stg (Eg q P) (fun z => z) (s0 q c) 0) := by
    intro y hy
    show (y = s0 q c → _) ∧ _
    rw [gi_si, gi_jff]
    by_cases e : y = s0 q c
    · rw [if_pos ⟨rfl, e⟩]; exact ⟨fun _ => rfl, fun w => absurd e w⟩
    · rw [if_neg (fun w => e w.2), if_pos ⟨rfl, by omega, hy⟩]; exact ⟨fun w => absurd w e, fun _ => rfl⟩
  obtain ⟨K, k1, k2, k3, k4⟩ := m_r34 H.1 hP hs 24576 0 jfu _ rfl (by decide) (hM_st (stM_si (o := 20) (k := s0 q c) (show (6 : Nat) ≠ 3 by decide)) HC.2.1) ha
  have k1 : f_X6_reach_L34 jfu (nI P) 0 (si (jff M 20 0 24576 0) 20 (s0 q c) 1) = _ := k1
  refine ⟨K, ?_, fun y hy => ?_, fun a k ha => ?_, fun a k => k4 a k⟩
  · unfold f_X6_reach
    rw [z, jb2_e, m_begin HC, jb1_e, jg_t (jin_nI (show s0 q c < 24576 by omega) (by decide)), nI_clamp (show s0 q c < 2 ^ 31 by omega), vnb1, jlet_e, k1]
    rfl
  · have e : stg (Eg q P) (fun z => z) (s0 q c) 24576 y ↔ clo (Eg q P) (s0 q c) y := ⟨stg_clo _ _, clo_stg eg1 (fun y hy => stg_lt H.1 hs hy)⟩
    rw [← e]; exact k2 y hy
  · rw [k3 a k ha, gi_si, if_neg (fun w => ha w.1), f0 a k ha]
end JW
