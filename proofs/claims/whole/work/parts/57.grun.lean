/-! orders: what a pair does; run -/
def gpb (q : Nat → Nat → Nat) (g e : Nat) : Nat := if e ≠ 0 ∧ isk (q 1 (e - 1)) 1 = true then 0 else (if 2 < g + 1 then 2 else g + 1)
def dbt (e : Nat) : Nat := if e = 0 then 0 else 2 ^ (e - 1)
section JO
variable {q c : Nat → Nat → Nat} {M N Mx Mm Nx Nm : jM}
theorem gpb_le (g e : Nat) : gpb q g e ≤ 2 := by
  unfold gpb
  split
  · omega
  · split <;> omega
theorem dI0 : dI 0 = -9 := rfl
theorem dI_9 {i : Nat} (h : i < 2 ^ 31) : ¬ dI (i + 1) = -9 := fun w => nI_pos h (by rw [← dI_s, w]; decide)
theorem hun_min {i s g : Nat} (h : g = if 2 < s then 2 else s) : hun q i g = hun q i s := by
  unfold hun
  by_cases e : 2 < s
  · rw [h, if_pos e]; simp [show 2 ≤ s by omega]
  · rw [h, if_neg e]
theorem hin_min {i h d s g : Nat} (e : g = if 2 < s then 2 else s) : hin q i h d g = hin q i h d s := by
  unfold hin
  rw [hun_min e]
theorem x_gap (hq : okP q) (hx : hX q M) {g e : Nat} (hg : g < 2 ^ 30) (he : e ≤ q 0 0) : f_X1_gapBehind (nI g) (dI e) M = some (nI (gpb q g e)) := by
  have h6 := hq.1
  have k1 : (if (2 : Int32) < nI g + 1 then (2 : Int32) else nI g + 1) = nI (if 2 < g + 1 then 2 else g + 1) := by
    rw [nI_1]
    by_cases w : 2 < g + 1
    · rw [if_pos w, if_pos (show (2 : Int32) < nI (g + 1) from nI_lt (a := 2) w (by omega))]; rfl
    · rw [if_neg w, if_neg (show ¬ (2 : Int32) < nI (g + 1) from nI_nlt (a := 2) (by omega) (by decide))]
  unfold f_X1_gapBehind gpb
  rw [k1]
  cases e with
  | zero => rw [dI0, if_pos rfl, jb1_e, if_pos j00, if_neg (show ¬ ((0 : Nat) ≠ 0 ∧ isk (q 1 (0 - 1)) 1 = true) from fun w => w.1 rfl)]
  | succ i =>
    rw [if_neg (dI_9 (by omega)), dI_s, show (1 : Int32) = nI 1 from rfl, x_kind hq hx (show i < q 0 0 by omega) (by decide), jb1_e, b2_if, Nat.add_sub_cancel]
    cases isk (q 1 i) 1 with
    | true => rw [if_pos rfl, jb1_e, if_neg (by decide), if_pos ⟨by omega, rfl⟩]; rfl
    | false => rw [if_neg Bool.false_ne_true, jb1_e, if_pos j00, if_neg (show ¬ (i + 1 ≠ 0 ∧ false = true) from fun w => Bool.false_ne_true w.2)]
theorem x_dbt {e : Nat} (he : e ≤ 6) : f_X1_deedBit (dI e) M = some (nI (dbt e)) := by
  unfold f_X1_deedBit dbt
  cases e with
  | zero => rfl
  | succ i => rw [if_neg (dI_9 (by omega)), dI_s, jshl i (by omega), if_neg (by omega), Nat.add_sub_cancel]
/-- the class's order under way: what may be opened, what is, since when, what is done -/
def ord (P S g d : Nat) (M : jM) : Prop := gi M 65 3 = nI P ∧ gi M 65 4 = nI S ∧ gi M 65 5 = nI g ∧ gi M 65 6 = nI d
/-- a pair fits -/
def fts (q : Nat → Nat → Nat) (P S g d h e : Nat) : Bool := (dif P S).testBit h && (decide (e = 0) || decide (hin q (e - 1) h d g = 0))
theorem x_fits (hq : okP q) (hx : hX q M) {P S g d h e : Nat} (ho : ord P S g d M) (hP : P < 128) (hS : S < 128) (hd : d < 64) (hg : g < 2 ^ 30) (hh : h < q 0 1) (he : e ≤ q 0 0) : f_X1_fits (nI h) (dI e) M = some (b2 (fts q P S g d h e)) := by
  have h6 := hq.1
  have h7 := hq.2.1
  have hD := dif_lt (b := S) hP
  unfold f_X1_fits fts
  rw [ho.1, ho.2.1, ho.2.2.1, ho.2.2.2, jdif hP hS, x_isIn (by omega) (by omega), jb1_e, b2_if]
  cases (dif P S).testBit h with
  | false => rw [if_neg Bool.false_ne_true]; rfl
  | true =>
    rw [if_pos rfl]
    cases e with
    | zero => rfl
    | succ i =>
      have := hin_le (q := q) i h d g
      rw [if_neg (dI_9 (by omega)), dI_s, x_hin hq hx (by omega) hh hd (by omega), jb1_e, jzn (by omega), Nat.add_sub_cancel]
      simp only [show ¬ i + 1 = 0 by omega, decide_false, Bool.false_or, Bool.true_and]
      exact jb2s _
theorem x_live (hq : okP q) (hx : hX q M) {P S g d h e : Nat} (ho : ord P S g d M) (hg : g < 2 ^ 30) (hh : h < q 0 1) (he : e ≤ q 0 0) : ∃ N, f_X1_live (nI h) (dI e) M = some N ∧ ord P (S ||| 2 ^ h) (gpb q g e) (d ||| dbt e) N ∧ (∀ a k, a ≠ 65 → gi N a k = gi M a k) ∧ ∀ a k, gl N a k = gl M a k := by
  have h6 := hq.1
  have h7 := hq.2.1
  obtain ⟨o1, o2, o3, o4⟩ := ho
  have s1 : ∀ v, hX q (si M 65 4 v) := fun v => hX_st (stX_si (by decide)) hx
  unfold f_X1_live
  rw [o2, jshl h (by omega), jor, jlet_e, show gi (si M 65 4 (nI (S ||| 2 ^ h))) 65 5 = nI g from by rw [gi_si, if_neg (by omega)]; exact o3, x_gap hq (s1 _) hg he, jb1_e, jlet_e, x_dbt (by omega), jb1_e, jlet_e]
  refine ⟨_, rfl, ⟨?_, ?_, ?_, ?_⟩, fun a k ha => ?_, fun a k => rfl⟩
  · rw [gi_si, if_neg (by omega), gi_si, if_neg (by omega), gi_si, if_neg (by omega)]; exact o1
  · rw [gi_si, if_neg (by omega), gi_si, if_neg (by omega), gi_si, if_pos ⟨rfl, rfl⟩]
  · rw [gi_si, if_neg (by omega), gi_si, if_pos ⟨rfl, rfl⟩]
  · rw [gi_si, if_pos ⟨rfl, rfl⟩, gi_si, if_neg (by omega), gi_si, if_neg (by omega), o4, jor]
  · rw [gi_si, if_neg (fun w => ha w.1), gi_si, if_neg (fun w => ha w.1), gi_si, if_neg (fun w => ha w.1)]
theorem x_start (H : CX q c M) {P : Nat} : ∃ N, f_X1_start (nI P) M = some N ∧ ord P 0 (if 2 < vec q c (c 1 0) 4 then 2 else vec q c (c 1 0) 4) (vec q c (c 1 0) 3) N ∧ (∀ a k, a ≠ 65 → gi N a k = gi M a k) ∧ ∀ a k, gl N a k = gl M a k := by
  have b := vbd H.1 H.2.2.1
  unfold f_X1_start
  rw [jlet_e, jlet_e, jlet_e, jlet_e]
  refine ⟨_, rfl, ⟨?_, ?_, ?_, ?_⟩, fun a k ha => ?_, fun a k => rfl⟩
  · rw [gi_si, if_neg (by omega), gi_si, if_neg (by omega), gi_si, if_neg (by omega), gi_si, if_pos ⟨rfl, rfl⟩]
  · rw [gi_si, if_neg (by omega), gi_si, if_neg (by omega), gi_si, if_pos ⟨rfl, rfl⟩]; rfl
  · rw [gi_si, if_neg (by omega), gi_si, if_pos ⟨rfl, rfl⟩, show ∀ v w, gi (si (si M 65 3 v) 65 4 w) 39 11 = gi M 39 11 from fun v w => rfl, x11 H]
    by_cases w : 2 < vec q c (c 1 0) 4
    · rw [if_pos w, if_pos (show (2 : Int32) < nI (vec q c (c 1 0) 4) from nI_lt (a := 2) w (by omega))]; rfl
    · rw [if_neg w, if_neg (show ¬ (2 : Int32) < nI (vec q c (c 1 0) 4) from nI_nlt (a := 2) (by omega) (by decide))]
  · rw [gi_si, if_pos ⟨rfl, rfl⟩]; exact x10 H
  · rw [gi_si, if_neg (fun w => ha w.1), gi_si, if_neg (fun w => ha w.1), gi_si, if_neg (fun w => ha w.1), gi_si, if_neg (fun w => ha w.1)]
theorem st65 (h1 : ∀ a k, a ≠ 65 → gi N a k = gi M a k) (h2 : ∀ a k, gl N a k = gl M a k) {j : Nat} (hj : j ≠ 6) : stX j M N := fun a k ha => ⟨h1 a k (fun w => hj (by rw [← ha, w]; rfl)), h2 a k⟩
/-- a pair of ints is an hour and a deed, or is refused alike -/
theorem pr_case (hq : okP q) (hx : hX q Mx) (hm : hM q Mm) (y z : Int32) : (∃ h e, h < q 0 1 ∧ e ≤ q 0 0 ∧ y = nI h ∧ z = dI e) ∨ (f_X2_hasHour y Mx = some 0 ∧ f_X6_isHour y Mm = some 0) ∨ (f_X2_hasHour y Mx = some 1 ∧ f_X6_isHour y Mm = some 1 ∧ ¬ z = -9 ∧ f_X2_hasDeed z Mx = some 0 ∧ f_X6_isDeed z Mm = some 0) := by
  rcases jdeed q hq y 1 (Or.inr rfl) with b | ⟨h, hh, rfl⟩
  · exact Or.inr (Or.inl ⟨x_hh_f hx b, m_hh_f hq hm b⟩)
  · by_cases e9 : z = -9
    · exact Or.inl ⟨h, 0, hh, Nat.zero_le _, rfl, e9⟩
    · rcases jdeed q hq z 0 (Or.inl rfl) with b | ⟨i, hi, rfl⟩
      · exact Or.inr (Or.inr ⟨x_hh_t hq hx hh, m_hh_t hq hm hh, e9, x_hd_f hx b, m_hd_f hq hm b⟩)
      · exact Or.inl ⟨h, i + 1, hh, hi, rfl, rfl⟩
theorem e402 (j k : Nat) : (40 : Int32) * nI j + (2 : Int32) * nI k = nI (40 * j + 2 * k) := by rw [show (40 : Int32) = nI 40 from rfl, show (2 : Int32) = nI 2 from rfl, pk_mul, pk_mul, nI_add]
theorem e2k (k : Nat) : (2 : Int32) * nI k = nI (2 * k) := pk_mul 2 k
theorem ap_loop (R : Rl Q1 Mx Mm) (H : Q2 q c Mx Mm) {j n : Nat} (hj : j < 6) (hn : n ≤ 7) : ∀ (r k m : Nat), k + r = n → r < m → (∃ Nm, f_X5_areAllPairs_L2 (4 + j) 40 m (nI (2 * n)) (nI (2 * k)) Mx = some (.inl 0) ∧ f_X6_find 3 Mm = some (-3, Nm) ∧ f_X6_run_L62 m (nI j) (nI n) (nI k) Mm = some (.inl (-3, Nm))) ∨ (f_X5_areAllPairs_L2 (4 + j) 40 m (nI (2 * n)) (nI (2 * k)) Mx = some (.inr (nI (2 * n))) ∧ f_X6_run_L62 m (nI j) (nI n) (nI k) Mm = some (.inr (nI n, Mm)) ∧ ∀ z, k ≤ z → z < n → ∃ h e, h < q 0 1 ∧ e ≤ q 0 0 ∧ gi Mx (4 + j) (2 * z) = nI h ∧ gi Mx (4 + j) (2 * z + 1) = dI e)
  | 0, k, m, hk, hm => by
    obtain ⟨m', rfl⟩ : ∃ m', m = m' + 1 := ⟨m - 1, by omega⟩
    have e : k = n := by omega
    subst e
    refine Or.inr ⟨?_, ?_, fun z h1 h2 => by omega⟩
    · show f_X5_areAllPairs_L2_b (4 + j) 40 (f_X5_areAllPairs_L2 (4 + j) 40 m') _ _ Mx = _
      unfold f_X5_areAllPairs_L2_b
      rw [nI_1, if_pos (nI_le (by omega) (by omega))]
    · show f_X6_run_L62_b (f_X6_run_L62 m') _ _ _ Mm = _
      unfold f_X6_run_L62_b
      rw [if_pos (nI_le (Nat.le_refl _) (by omega))]
  | r + 1, k, m, hk, hm => by
    obtain ⟨m', rfl⟩ : ∃ m', m = m' + 1 := ⟨m - 1, by omega⟩
    have rw1 := (R.2.1 j hj).2.2 (2 * k) (by omega)
    have rw2 := (R.2.1 j hj).2.2 (2 * k + 1) (by omega)
    have u1 : f_X5_areAllPairs_L2 (4 + j) 40 (m' + 1) (nI (2 * n)) (nI (2 * k)) Mx = f_X5_areAllPairs_L2_b (4 + j) 40 (f_X5_areAllPairs_L2 (4 + j) 40 m') (nI (2 * n)) (nI (2 * k)) Mx := rfl
    have u2 : f_X6_run_L62 (m' + 1) (nI j) (nI n) (nI k) Mm = f_X6_run_L62_b (f_X6_run_L62 m') (nI j) (nI n) (nI k) Mm := rfl
    rw [u1, u2]
    unfold f_X5_areAllPairs_L2_b f_X6_run_L62_b
    simp only [nI_1, jlet_e, e402, if_neg (nI_ge (show 2 * k + 1 < 2 * n by omega) (show 2 * n < 2 ^ 31 by omega)), jg_t (jin_nI (show 2 * k + 1 < 40 by omega) (by decide)), jg_t (jin_nI (show 2 * k < 40 by omega) (by decide)), nI_clamp (show 2 * k + 1 < 2 ^ 31 by omega), nI_clamp (show 2 * k < 2 ^ 31 by omega), if_neg (nI_ge (show k < n by omega) (show n < 2 ^ 31 by omega)), jg_t (jin_nI (show 40 * j + 2 * k + 1 < 240 by omega) (by decide)), jg_t (jin_nI (show 40 * j + 2 * k < 240 by omega) (by decide)), nI_clamp (show 40 * j + 2 * k + 1 < 2 ^ 31 by omega), nI_clamp (show 40 * j + 2 * k < 2 ^ 31 by omega)]
    rw [← rw1, show 40 * j + 2 * k + 1 = 40 * j + (2 * k + 1) by omega, ← rw2]
    rcases pr_case H.1 H.2.1 H.2.2.1 (gi Mx (4 + j) (2 * k)) (gi Mx (4 + j) (2 * k + 1)) with ⟨h, e, hh, he, y1, y2⟩ | ⟨b1, b2⟩ | ⟨b1, b2, b3, b4, b5⟩
    · have ih := ap_loop R H hj hn r (k + 1) m' (by omega) (by omega)
      have a2 : nI (2 * k) + (2 : Int32) = nI (2 * (k + 1)) := by rw [show (2 : Int32) = nI 2 from rfl, nI_add]; rfl
      have v1 : (jb1 (f_X2_hasHour (nI h) Mx) fun r5 => if r5 = 0 then some (Sum.inl (0 : Int32)) else if dI e = -9 then f_X5_areAllPairs_L2 (4 + j) 40 m' (nI (2 * n)) (nI (2 * k) + 2) Mx else jb1 (f_X2_hasDeed (dI e) Mx) fun r10 => if r10 = 0 then some (Sum.inl (0 : Int32)) else f_X5_areAllPairs_L2 (4 + j) 40 m' (nI (2 * n)) (nI (2 * k) + 2) Mx) = f_X5_areAllPairs_L2 (4 + j) 40 m' (nI (2 * n)) (nI (2 * (k + 1))) Mx := by
        rw [x_hh_t H.1 H.2.1 hh, jb1_e, if_neg j10, a2]
        cases e with
        | zero => rw [dI0, if_pos rfl]
        | succ i => rw [if_neg (dI_9 (by have := H.1.1; omega)), dI_s, x_hd_t H.1 H.2.1 (by omega), jb1_e, if_neg j10]
      have v2 : (jb1 (f_X6_isHour (nI h) Mm) fun r5 => if r5 = 0 then jb2 (f_X6_find 3 Mm) fun r8 M9 => some (Sum.inl (r8, M9)) else if dI e = -9 then f_X6_run_L62 m' (nI j) (nI n) (nI (k + 1)) Mm else jb1 (f_X6_isDeed (dI e) Mm) fun r13 => if r13 = 0 then jb2 (f_X6_find 3 Mm) fun r17 M18 => some (Sum.inl (r17, M18)) else f_X6_run_L62 m' (nI j) (nI n) (nI (k + 1)) Mm) = f_X6_run_L62 m' (nI j) (nI n) (nI (k + 1)) Mm := by
        rw [m_hh_t H.1 H.2.2.1 hh, jb1_e, if_neg j10]
        cases e with
        | zero => rw [dI0, if_pos rfl]
        | succ i => rw [if_neg (dI_9 (by have := H.1.1; omega)), dI_s, m_hd_t H.1 H.2.2.1 (by omega), jb1_e, if_neg j10]
      rw [y1, y2, v1, v2]
      rcases ih with ih | ⟨i1, i2, i3⟩
      · exact Or.inl ih
      · refine Or.inr ⟨i1, i2, fun z h1 h2 => ?_⟩
        by_cases ez : z = k
        · subst ez; exact ⟨h, e, hh, he, y1, y2⟩
        · exact i3 z (by omega) h2
    · left
      rw [b1, b2, jb1_e, jb1_e, if_pos j00, if_pos j00, show (3 : Int32) = nI 3 from rfl, m_find (by decide)]
      exact ⟨_, rfl, rfl, rfl⟩
    · left
      rw [b1, b2, jb1_e, jb1_e, if_neg j10, if_neg j10, if_neg b3, if_neg b3, b4, b5, jb1_e, jb1_e, if_pos j00, if_pos j00, show (3 : Int32) = nI 3 from rfl, m_find (by decide)]
      exact ⟨_, rfl, rfl, rfl⟩
theorem difor : ∀ a, a < 128 → ∀ b, b < 128 → ∀ h, h < 7 → dif a (b ||| 2 ^ h) = dif (dif a b) (2 ^ h) := fun a ha b hb h hh => jbtE fun i => by
  rw [dif_bit ha, dif_bit (dif_lt ha), dif_bit ha, Nat.testBit_or, Bool.not_or, Bool.and_assoc]
theorem gmin {g s : Nat} {e : Nat} (h : g = if 2 < s then 2 else s) : gpb q g e = if 2 < (if e ≠ 0 ∧ isk (q 1 (e - 1)) 1 = true then 0 else s + 1) then 2 else (if e ≠ 0 ∧ isk (q 1 (e - 1)) 1 = true then 0 else s + 1) := by
  unfold gpb
  by_cases w : e ≠ 0 ∧ isk (q 1 (e - 1)) 1 = true
  · simp [w]
  · simp only [if_neg w]
    by_cases u : 2 < s
    · rw [h, if_pos u, if_pos (by omega), if_pos (by omega)]
    · rw [h, if_neg u]
theorem sh_1 : ∀ h, h < 7 → (1 : Int32) <<< (nI h &&& 31) = nI (2 ^ h) := fun h hh => jshl h (by omega)
theorem fo_loop (hq : okP q) {j n P : Nat} (hj : j < 6) (hn : n ≤ 7) (hP : P < 128) (hmm : hM q Mm) (x : Nat → Int32) (hrow : ∀ z, z < 40 → gi Mm 2 (40 * j + z) = x z) (hpr : ∀ z, z < n → ∃ h e, h < q 0 1 ∧ e ≤ q 0 0 ∧ x (2 * z) = nI h ∧ x (2 * z + 1) = dI e) : ∀ (r k m S s d g : Nat) (Mx : jM), k + r = n → r + 1 < m → S < 128 → d < 64 → s + r < 100 → (g = if 2 < s then 2 else s) → hX q Mx → ord P S g d Mx → (∀ z, z < 40 → gi Mx (4 + j) z = x z) → ∃ k' d' a e f Nx, f_X1_follow_L2 (4 + j) 40 m (nI n) (nI k) Mx = some (nI k', Nx) ∧ f_X6_run_L169 m (nI j) (nI n) (nI (dif P S)) (nI d) (nI s) (nI k) 1 Mm = some (a, nI d', e, nI k', f) ∧ gi Nx 65 6 = nI d' ∧ (∀ a k, a ≠ 65 → gi Nx a k = gi Mx a k) ∧ ∀ a k, gl Nx a k = gl Mx a k
  | 0, k, m, S, s, d, g, Mx, hk, hm, hS, hd, hs, hg, hx, ho, hr => by
    obtain ⟨m', rfl⟩ : ∃ m', m = m' + 1 := ⟨m - 1, by omega⟩
    have e : k = n := by omega
    subst e
    refine ⟨k, d, nI (dif P S), nI s, 1, Mx, ?_, ?_, ho.2.2.2, fun _ _ _ => rfl, fun _ _ => rfl⟩
    · show f_X1_follow_L2_b (4 + j) 40 (f_X1_follow_L2 (4 + j) 40 m') _ _ Mx = _
      unfold f_X1_follow_L2_b
      rw [if_pos (nI_le (Nat.le_refl _) (by omega))]
    · show f_X6_run_L169_b (f_X6_run_L169 m') _ _ _ _ _ _ _ Mm = _
      unfold f_X6_run_L169_b
      rw [if_pos (nI_le (Nat.le_refl _) (by omega))]
  | r + 1, k, m, S, s, d, g, Mx, hk, hm, hS, hd, hs, hg, hx, ho, hr => by
    obtain ⟨m', rfl⟩ : ∃ m', m = m' + 1 := ⟨m - 1, by omega⟩
    have h6 := hq.1
    have h7 := hq.2.1
    obtain ⟨h, e, hh, he, y1, y2⟩ := hpr k (by omega)
    have g2 : g ≤ 2 := by rw [hg]; split <;> omega
    have hD := dif_lt (b := S) hP
    have u1 : f_X1_follow_L2 (4 + j) 40 (m' + 1) (nI n) (nI k) Mx = f_X1_follow_L2_b (4 + j) 40 (f_X1_follow_L2 (4 + j) 40 m') (nI n) (nI k) Mx := rfl
    have u2 : f_X6_run_L169 (m' + 1) (nI j) (nI n) (nI (dif P S)) (nI d) (nI s) (nI k) 1 Mm = f_X6_run_L169_b (f_X6_run_L169 m') (nI j) (nI n) (nI (dif P S)) (nI d) (nI s) (nI k) 1 Mm := rfl
    rw [u1, u2]
    unfold f_X1_follow_L2_b f_X6_run_L169_b
    simp only [e2k, e40, nI_1, nI_clamp (show 2 * k < 2 ^ 31 by omega), nI_clamp (show 2 * k + 1 < 2 ^ 31 by omega), nI_clamp (show 40 * j + 2 * k < 2 ^ 31 by omega), nI_clamp (show 40 * j + 2 * k + 1 < 2 ^ 31 by omega), jg_t (jin_nI (show 2 * k + 1 < 40 by omega) (by decide)), jg_t (jin_nI (show 2 * k < 40 by omega) (by decide)), jg_t (jin_nI (show 40 * j + 2 * k < 240 by omega) (by decide)), jg_t (jin_nI (show 40 * j + 2 * k + 1 < 240 by omega) (by decide)), if_neg (nI_ge (show k < n by omega) (show n < 2 ^ 31 by omega)), if_neg j10, jlet_e]
    rw [hr (2 * k) (by omega), hr (2 * k + 1) (by omega), hrow (2 * k) (by omega), show 40 * j + 2 * k + 1 = 40 * j + (2 * k + 1) by omega, hrow (2 * k + 1) (by omega), y1, y2, x_fits hq hx ho hP hS hd (by omega) hh he, jb1_e, b2_if, m_has (by omega) (by omega), jb1_e, b2_if]
    have eg : (if (dif P S).testBit h = true then (if dI e < 0 then some (1 : Int32) else jb1 (f_X6_canBe (dI e) (nI h) (nI d) (nI s) Mm) fun r19 => if r19 = 0 then some 0 else some 1) else some 0) = some (b2 (fts q P S g d h e)) := by
      unfold fts
      cases (dif P S).testBit h with
      | false => rfl
      | true =>
        rw [if_pos rfl]
        cases e with
        | zero => rw [dI0, if_pos m9neg]; rfl
        | succ i =>
          rw [dI_s, if_neg (nI_pos (by omega)), m_can hq hmm (by omega) hh hd (by omega), jb1_e, b2_if, Nat.add_sub_cancel, hin_min hg]
          simp only [show ¬ i + 1 = 0 by omega, decide_false, Bool.false_or, Bool.true_and]
          exact jb2s _
    rw [eg, jb1_e]
    cases hf : fts q P S g d h e with
    | false =>
      rw [if_neg Bool.false_ne_true, if_pos (show b2 false = 0 from rfl), jb4_e]
      refine ⟨k, d, nI (dif P S), nI s, 0, Mx, rfl, ?_, ho.2.2.2, fun _ _ _ => rfl, fun _ _ => rfl⟩
      obtain ⟨m2, rfl⟩ : ∃ m2, m' = m2 + 1 := ⟨m' - 1, by omega⟩
      show f_X6_run_L169_b (f_X6_run_L169 m2) _ _ _ _ _ _ _ Mm = _
      unfold f_X6_run_L169_b
      rw [if_neg (nI_ge (show k < n by omega) (by omega)), if_pos (show b2 false = 0 from rfl)]; rfl
    | true =>
      obtain ⟨N, n1, n2, n3, n4⟩ := x_live hq hx ho (by omega) hh he
      have hbit : h < 7 := by omega
      have hd2 : d ||| dbt e < 64 := by
        unfold dbt
        by_cases w : e = 0
        · rw [if_pos w, Nat.or_zero]; exact hd
        · rw [if_neg w]; exact jor6 hd (by omega)
      have hs2 : (if e ≠ 0 ∧ isk (q 1 (e - 1)) 1 = true then 0 else s + 1) + r < 100 := by split <;> omega
      obtain ⟨k', d', a, e', f, Nx, l1, l2, l3, l4, l5⟩ := fo_loop hq hj hn hP hmm x hrow hpr r (k + 1) m' (S ||| 2 ^ h) (if e ≠ 0 ∧ isk (q 1 (e - 1)) 1 = true then 0 else s + 1) (d ||| dbt e) (gpb q g e) N (by omega) (by omega) (jor7 hS hbit) hd2 hs2 (gmin hg) (hX_st (st65 n3 n4 (by decide)) hx) n2 (fun z hz => by rw [n3 _ _ (by omega)]; exact hr z hz)
      refine ⟨k', d', a, e', f, Nx, ?_, ?_, l3, fun a k ha => (l4 a k ha).trans (n3 a k ha), fun a k => (l5 a k).trans (n4 a k)⟩
      · rw [if_pos rfl, n1, jb1_e, l1]
      · rw [if_neg (show ¬ b2 true = 0 from by decide), sh_1 h hbit, jdif hD (Nat.lt_of_lt_of_le (Nat.pow_lt_pow_right (by decide) hbit) (by decide)), ← difor P hP S hS h hbit]
        have ed : nI d ||| (if (0 : Int32) ≤ dI e then (1 : Int32) <<< (dI e &&& 31) else 0) = nI (d ||| dbt e) := by
          unfold dbt
          cases e with
          | zero => rw [dI0, if_neg (by decide), if_pos rfl]; exact jor d 0
          | succ i => rw [dI_s, if_pos (nI_pos' (by omega)), jshl i (by omega), if_neg (by omega), Nat.add_sub_cancel, jor]
        have es : (if dI e < 0 then some (nI (s + 1)) else jg (jin (dI e) 6) (jb1 (f_X6_isKind (gi Mm 5 (dI e).toNatClampNeg) 1 Mm) fun r68 => if r68 = 0 then some (nI (s + 1)) else some 0)) = some (nI (if e ≠ 0 ∧ isk (q 1 (e - 1)) 1 = true then 0 else s + 1)) := by
          cases e with
          | zero => rw [dI0, if_pos m9neg, if_neg (by omega)]
          | succ i =>
            rw [dI_s, if_neg (nI_pos (by omega)), jg_t (jin_nI (show i < 6 by omega) (by decide)), nI_clamp (show i < 2 ^ 31 by omega), (hmm.2.2.1 i (by omega)).1, show f_X6_isKind (nI (q 1 i)) 1 Mm = some (b2 (isk (q 1 i) 1)) from m_isKind (k := 1) (hq.2.2.2.1 i (by omega)).1 (by decide), jb1_e, b2_if, Nat.add_sub_cancel]
            cases isk (q 1 i) 1 with
            | true => rw [if_pos rfl, if_pos ⟨by omega, rfl⟩]; rfl
            | false => rw [if_neg Bool.false_ne_true, if_neg (fun w => Bool.false_ne_true w.2)]
        rw [ed, es, jb1_e, jb4_e]
        exact l2
theorem j14 {n : Nat} (h : n ≤ 40) {α : Type} (x y : α) : (if nI n ≤ 14 then x else y) = if n ≤ 14 then x else y := by
  by_cases e : n ≤ 14
  · rw [if_pos e, if_pos (show nI n ≤ (14 : Int32) from nI_le (b := 14) e (by decide))]
  · rw [if_neg e, if_neg (show ¬ nI n ≤ (14 : Int32) from fun w => e ((nI_leI (b := 14) (by omega) (by decide)).mp w))]
theorem s_run : kS_run (Rl Q1) := by
  intro a1 Mx Mm R
  unfold f_X5_run f_X6_run
  rcases hs_rows R a1 with ⟨r, Mx', Mm', h1, h2, h3, h4⟩ | ⟨j, n, hj, hn, rfl, hx, hm, h1, h2, h3⟩
  · rw [h1, jb2_e, if_neg h2]
    rcases h3 with ⟨rfl, rfl, h5⟩ | ⟨h5, h6, h7⟩
    · rw [h5]; exact ⟨-1, Mx', Mm', rfl, rfl, h4⟩
    · rw [h5, jb1_e, if_neg j10, h6, jb2_e, if_neg h7]
      exact ⟨r, Mx', Mm', rfl, rfl, h4⟩
  · obtain ⟨q, c, H⟩ := R.2.2.2
    have b := vbd H.1 H.2.2.2.1
    rw [h1, jb2_e, if_pos j00, h2, jb1_e, if_neg j10, h3, jb2_e, if_pos (by decide)]
    simp only [jg_t (jin_nI hj (by decide)), nI_clamp (show j < 2 ^ 31 by omega), hx, hm, jlet_e]
    rw [show (2 : Int32) = nI 2 from rfl, pk_rem (show n < 2 ^ 31 by omega) (by decide) (by decide), pk_div (show n < 2 ^ 31 by omega) (by decide) (by decide)]
    rcases Nat.mod_two_eq_zero_or_one n with e2 | e2
    · rw [e2, if_pos (show nI 0 = 0 from rfl), if_neg (show ¬ nI 0 = 1 from by decide), j14 hn, j14 hn]
      by_cases e14 : n ≤ 14
      · rw [if_pos e14, if_pos e14]
        obtain ⟨k, rfl⟩ : ∃ k, n = 2 * k := ⟨n / 2, by omega⟩
        rw [show 2 * k / 2 = k by omega]
        unfold f_X5_areAllPairs
        rcases ap_loop R H (n := k) hj (by omega) k 0 jfu (by omega) (by unfold jfu; omega) with ⟨Nm, i1, i2, i3⟩ | ⟨i1, i2, i3⟩
        · have i1 : f_X5_areAllPairs_L2 (4 + j) 40 jfu (nI (2 * k)) 0 Mx = _ := i1
          have i3 : f_X6_run_L62 jfu (nI j) (nI k) 0 Mm = _ := i3
          rw [show (3 : Int32) = nI 3 from rfl, m_find (by decide)] at i2
          have i4 := Option.some.inj i2
          rw [Prod.mk.injEq] at i4
          rw [i1, i3, show (3 : Int32) = nI 3 from rfl, x_find (by decide)]
          exact ⟨-3, _, _, rfl, rfl, by rw [← i4.2]; exact rl_find Q1_stay R (by decide)⟩
        · have i1 : f_X5_areAllPairs_L2 (4 + j) 40 jfu (nI (2 * k)) 0 Mx = _ := i1
          have i2 : f_X6_run_L62 jfu (nI j) (nI k) 0 Mm = _ := i2
          have hs := shf_lt (c := c) (v := vec q c (c 1 0)) (d := vec q c (c 1 0) 0) H.1
          rw [i1, i2]
          show ∃ r Mx' Mm', (jb1 (some (1 : Int32)) _) = some (r, Mx') ∧ _
          rw [jb1_e, if_neg j10, x_shelf (H_cx H), jb1_e]
          obtain ⟨N, n1, n2, n3, n4⟩ := x_start (H_cx H) (P := shf q c (vec q c (c 1 0)) (vec q c (c 1 0) 0))
          rw [n1, jb1_e]
          have r2 : ∀ Mm', (jr2 (some (Sum.inr (nI k, Mm)) : Option ((Int32 × jM) ⊕ (Int32 × jM))) Mm') = Mm' (nI k) Mm := fun _ => rfl
          rw [r2]
          rw [m12_0 (H_cm H), m_shelf (H_cm H) (by omega), jb1_e, m12_3 (H_cm H), m12_4 (H_cm H)]
          obtain ⟨k', d', a, e, f, Nx, l1, l2, l3, l4, l5⟩ := fo_loop H.1 (n := k) hj (by omega) hs H.2.2.1 (gi Mx (4 + j)) (fun z hz => ((R.2.1 j hj).2.2 z hz).symm) (fun z hz => i3 z (Nat.zero_le _) hz) k 0 jfu 0 (vec q c (c 1 0) 4) (vec q c (c 1 0) 3) _ N (by omega) (by unfold jfu; omega) (by decide) (by omega) (by omega) rfl (hX_st (st65 n3 n4 (by decide)) H.2.1) n2 (fun z hz => n3 _ _ (by omega))
          have l1 : f_X1_follow_L2 (4 + j) 40 jfu (nI k) 0 N = _ := l1
          have ed0 : dif (shf q c (vec q c (c 1 0)) (vec q c (c 1 0) 0)) 0 = shf q c (vec q c (c 1 0)) (vec q c (c 1 0) 0) := jbtE fun i => by rw [dif_bit hs]; simp
          rw [ed0] at l2
          have l2 : f_X6_run_L169 jfu (nI j) (nI k) (nI (shf q c (vec q c (c 1 0)) (vec q c (c 1 0) 0))) (nI (vec q c (c 1 0) 3)) (nI (vec q c (c 1 0) 4)) 0 1 Mm = _ := l2
          unfold f_X1_follow
          rw [l1, jb2_e, jb2_e, l2, jb5_e, m_answer, jb2_e, l3]
          have sx : ∀ j, j ≠ 6 → stX j Mx Nx := fun j hj => st65 (fun a k ha => (l4 a k ha).trans (n3 a k ha)) (fun a k => (l5 a k).trans (n4 a k)) hj
          have R2 : Rl Q1 Nx Mm := ⟨ra_stay (sx 0 (by decide)) stM_rf R.1, rr_stay (sx 1 (by decide)) stM_rf R.2.1, rt_stay (sx 2 (by decide)) stM_rf R.2.2.1, q, c, Q2_st (sx 3 (by decide)) (sx 4 (by decide)) (sx 5 (by decide)) stM_rf stM_rf stM_rf H⟩
          exact ⟨_, _, _, rfl, rfl, rl_tell Q1_stay R2 _⟩
      · rw [if_neg e14, if_neg e14, show (5 : Int32) = nI 5 from rfl, x_find (by decide), m_find (by decide)]
        exact ⟨-3, _, _, rfl, rfl, rl_find Q1_stay R (by decide)⟩
    · rw [e2, if_neg (show ¬ nI 1 = 0 from by decide), if_pos (show nI 1 = 1 from rfl), show (5 : Int32) = nI 5 from rfl, x_find (by decide), m_find (by decide)]
      exact ⟨-3, _, _, rfl, rfl, rl_find Q1_stay R (by decide)⟩
end JO
