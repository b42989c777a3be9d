/-! orders: what can be reached; sets of sets as longs -/
def clo (E : Nat → Nat → Prop) (s y : Nat) : Prop := ∀ F : Nat → Prop, F s → (∀ x z, F x → E x z → F z) → F y
def stg (E : Nat → Nat → Prop) (ρ : Nat → Nat) (s : Nat) : Nat → Nat → Prop
  | 0 => fun y => y = s
  | n + 1 => fun y => stg E ρ s n y ∨ ∃ x, ρ x = n ∧ stg E ρ s n x ∧ E x y
section JS
variable {E : Nat → Nat → Prop} {ρ : Nat → Nat} {s y : Nat}
theorem clo_s : clo E s s := fun _ h _ => h
theorem clo_e {x z : Nat} (h : clo E s x) (e : E x z) : clo E s z := fun F h0 h1 => h1 x z (h F h0 h1) e
theorem stg_clo : ∀ n y, stg E ρ s n y → clo E s y
  | 0, y, h => by rw [show y = s from h]; exact clo_s
  | n + 1, y, h => by
    rcases h with h | ⟨x, _, h, e⟩
    · exact stg_clo n y h
    · exact clo_e (stg_clo n x h) e
theorem stg_mono : ∀ k n y, stg E ρ s n y → stg E ρ s (n + k) y
  | 0, n, y, h => h
  | k + 1, n, y, h => Or.inl (stg_mono k n y h)
theorem stg_rk (hE : ∀ x y, E x y → ρ x < ρ y) : ∀ n y, stg E ρ s n y → ρ y ≤ n → stg E ρ s (ρ y) y
  | 0, y, h, hn => by rw [show ρ y = 0 by omega]; exact h
  | n + 1, y, h, hn => by
    by_cases e : ρ y = n + 1
    · rw [e]; exact h
    · rcases h with h | ⟨x, hx, _, he⟩
      · exact stg_rk hE n y h (by omega)
      · have := hE x y he
        omega
theorem clo_stg (hE : ∀ x y, E x y → ρ x < ρ y) {N : Nat} (hN : ∀ y, stg E ρ s N y → ρ y < N) (h : clo E s y) : stg E ρ s N y :=
  h _ (by have := stg_mono (E := E) (ρ := ρ) (s := s) N 0 s rfl; rwa [Nat.zero_add] at this) (fun x z hx e => by
    have hr := hN x hx
    have h1 := stg_rk hE N x hx (by omega)
    have h2 : stg E ρ s (ρ x + 1) z := Or.inr ⟨x, rfl, h1, e⟩
    have := stg_mono (N - (ρ x + 1)) _ z h2
    rwa [show ρ x + 1 + (N - (ρ x + 1)) = N by omega] at this)
end JS
def cs (S D g : Nat) : Nat := 192 * S + 3 * D + g
def ldx (q : Nat → Nat → Nat) (P x h e : Nat) : Bool := P.testBit h && (!(x / 192).testBit h && (decide (e = 0) || decide (hin q (e - 1) h (x / 3 % 64) (x % 3) = 0)))
def bhx (q : Nat → Nat → Nat) (x h e : Nat) : Nat := 192 * (x / 192 ||| 2 ^ h) + 3 * (x / 3 % 64 ||| dbt e) + gpb q (x % 3) e
def Eg (q : Nat → Nat → Nat) (P x y : Nat) : Prop := ∃ h e, h < q 0 1 ∧ e ≤ q 0 0 ∧ ldx q P x h e = true ∧ y = bhx q x h e
def rk2 (x : Nat) : Nat := 3 * (x / 192) + x % 3
section JT
variable {q : Nat → Nat → Nat} {P x y h e S D g : Nat}
theorem or_gt {S h : Nat} (hb : S.testBit h = false) : S < S ||| 2 ^ h := by
  have h1 : S ≤ S ||| 2 ^ h := Nat.left_le_or
  have h2 : S ≠ S ||| 2 ^ h := fun w => by
    have : (S ||| 2 ^ h).testBit h = false := by rw [← w]; exact hb
    rw [Nat.testBit_or, Nat.testBit_two_pow] at this
    simp at this
  omega
theorem ldx_b (hl : ldx q P x h e = true) : P.testBit h = true ∧ (x / 192).testBit h = false ∧ (e = 0 ∨ hin q (e - 1) h (x / 3 % 64) (x % 3) = 0) := by
  unfold ldx at hl
  simpa using hl
theorem eg_rk (hE : Eg q P x y) : x < y ∧ rk2 x < rk2 y := by
  obtain ⟨h, e, _, _, hl, rfl⟩ := hE
  have h1 := or_gt (ldx_b hl).2.1
  have h2 := gpb_le (q := q) (x % 3) e
  have h4 : x / 3 % 64 ||| dbt e ≥ 0 := Nat.zero_le _
  constructor
  · unfold bhx; omega
  · unfold rk2
    have a1 : bhx q x h e % 3 = gpb q (x % 3) e := by unfold bhx; omega
    have a2 : x / 192 ||| 2 ^ h ≤ bhx q x h e / 192 := by unfold bhx; omega
    rw [a1]; omega
theorem dbt_or {D e : Nat} (hD : D < 64) (he : e ≤ 6) : D ||| dbt e < 64 := by
  unfold dbt
  by_cases w : e = 0
  · rw [if_pos w, Nat.or_zero]; exact hD
  · rw [if_neg w]; exact jor6 hD (by omega)
theorem eg_lt (hq : okP q) (hx : x < 24576) (hE : Eg q P x y) : y < 24576 := by
  obtain ⟨h, e, hh, he, hl, rfl⟩ := hE
  have h2 := gpb_le (q := q) (x % 3) e
  have h3 := jor7 (a := x / 192) (h := h) (by omega) (by have := hq.2.1; omega)
  have h4 := dbt_or (D := x / 3 % 64) (e := e) (by omega) (by have := hq.1; omega)
  unfold bhx; omega
theorem cs_d (hS : S < 128) (hD : D < 64) (hg : g < 3) : cs S D g / 192 = S ∧ cs S D g / 3 % 64 = D ∧ cs S D g % 3 = g ∧ cs S D g < 24576 := by
  unfold cs
  refine ⟨?_, ?_, ?_, ?_⟩ <;> omega
theorem cs_x (x : Nat) : cs (x / 192) (x / 3 % 64) (x % 3) = x := by
  unfold cs; omega
theorem clo_ok (hq : okP q) {s : Nat} (hs : s < 192) (h : clo (Eg q P) s y) : y < 24576 ∧ ∀ i, (y / 192).testBit i = true → P.testBit i = true := by
  refine h (fun y => y < 24576 ∧ ∀ i, (y / 192).testBit i = true → P.testBit i = true) ⟨by omega, fun i hi => ?_⟩ (fun x z hx e => ⟨eg_lt hq hx.1 e, ?_⟩)
  · rw [show s / 192 = 0 by omega] at hi; simp at hi
  · obtain ⟨h, e, hh, he, hl, rfl⟩ := e
    have h2 := gpb_le (q := q) (x % 3) e
    have h4 := dbt_or (D := x / 3 % 64) (e := e) (by omega) (by have := hq.1; omega)
    intro i hi
    rw [show bhx q x h e / 192 = x / 192 ||| 2 ^ h by unfold bhx; omega, Nat.testBit_or, Nat.testBit_two_pow] at hi
    by_cases w : h = i
    · subst w; exact (ldx_b hl).1
    · exact hx.2 i (by simpa [w] using hi)
theorem stg_lt (hq : okP q) {s : Nat} {ρ : Nat → Nat} (hs : s < 192) {n : Nat} (h : stg (Eg q P) ρ s n y) : y < 24576 := (clo_ok hq hs (stg_clo _ _ h)).1
end JT
/-! longs as sets -/
def Lb (x : Int64) (d : Nat) : Prop := x.toBitVec.getLsbD d = true
section JU
variable {x y : Int64} {d : Nat}
theorem Lb_or : Lb (x ||| y) d ↔ Lb x d ∨ Lb y d := by
  unfold Lb
  rw [Int64.toBitVec_or, BitVec.getLsbD_or, Bool.or_eq_true]
theorem Lb_and : Lb (x &&& y) d ↔ Lb x d ∧ Lb y d := by
  unfold Lb
  rw [Int64.toBitVec_and, BitVec.getLsbD_and, Bool.and_eq_true]
theorem Lb_0 : ¬ Lb 0 d := by
  unfold Lb
  simp
theorem Lb_lt (h : Lb x d) : d < 64 := by
  by_cases e : d < 64
  · exact e
  · unfold Lb at h
    rw [BitVec.getLsbD_of_ge _ _ (by omega)] at h
    exact absurd h Bool.false_ne_true
theorem Lb_z : x = 0 ↔ ∀ d, ¬ Lb x d := by
  constructor
  · rintro rfl d
    exact Lb_0
  · intro h
    apply Int64.toBitVec_inj.mp
    apply BitVec.eq_of_getLsbD_eq
    intro i hi
    have h1 := h i
    have h2 := Lb_0 (d := i)
    unfold Lb at h1 h2
    rw [Bool.not_eq_true] at h1 h2
    rw [h1, h2]
theorem Lb_ne : ¬ x = 0 ↔ ∃ d, d < 64 ∧ Lb x d := by
  rw [Lb_z]
  constructor
  · intro h
    apply Classical.byContradiction
    intro w
    exact h (fun d hd => w ⟨d, Lb_lt hd, hd⟩)
  · rintro ⟨d, _, hd⟩ w
    exact w d hd
theorem Lb_lN {n : Nat} (hd : d < 64) : Lb (lN n) d ↔ n.testBit d = true := by
  unfold Lb lN
  rw [show (Int64.ofNat n).toBitVec = BitVec.ofNat 64 n from rfl, BitVec.getLsbD_ofNat]
  simp [hd]
theorem Lb_shl {i : Nat} (hi : i < 6) : Lb (x <<< ((nI (2 ^ i)).toInt64 &&& 63)) d ↔ d < 64 ∧ 2 ^ i ≤ d ∧ Lb x (d - 2 ^ i) := by
  have e : ∀ i, i < 6 → (((nI (2 ^ i)).toInt64 &&& 63).toBitVec.smod 64).toNat = 2 ^ i := by decide +kernel
  unfold Lb
  rw [Int64.toBitVec_shiftLeft, BitVec.shiftLeft_eq', e i hi, BitVec.getLsbD_shiftLeft]
  simp only [Bool.and_eq_true, Bool.not_eq_true', decide_eq_true_eq, decide_eq_false_iff_not, Nat.not_lt, and_assoc]
theorem jlg_eq (x y : Int64) : lg_cmp x y = 0 ↔ x = y := by
  unfold lg_cmp
  by_cases h : y < x
  · rw [if_pos h]
    exact ⟨fun w => absurd w (by decide), fun w => by subst w; exact absurd h (Int64.lt_irrefl)⟩
  · rw [if_neg h]
    by_cases e : x = y
    · rw [if_pos e]; exact ⟨fun _ => e, fun _ => rfl⟩
    · rw [if_neg e]; exact ⟨fun w => absurd w (by decide), fun w => absurd w e⟩
end JU
def bitU (M N : jM) (Z : Nat → Nat → Prop) : Prop := (∀ k d, Lb (gl N 66 k) d ↔ Lb (gl M 66 k) d ∨ Z k d) ∧ (∀ a k, gi N a k = gi M a k) ∧ ∀ a k, a ≠ 66 → gl N a k = gl M a k
section JV
variable {q : Nat → Nat → Nat} {M N K : jM} {Z Y : Nat → Nat → Prop}
theorem bitU_rf (h : ∀ k d, ¬ Z k d) : bitU M M Z := ⟨fun k d => ⟨Or.inl, fun w => w.resolve_right (h k d)⟩, fun _ _ => rfl, fun _ _ _ => rfl⟩
theorem bitU_cg (h : bitU M N Z) (e : ∀ k d, Z k d ↔ Y k d) : bitU M N Y := ⟨fun k d => (h.1 k d).trans (or_congr Iff.rfl (e k d)), h.2⟩
theorem bitU_tr (h1 : bitU M N Z) (h2 : bitU N K Y) : bitU M K (fun k d => Z k d ∨ Y k d) := ⟨fun k d => by rw [h2.1, h1.1, or_assoc], fun a k => (h2.2.1 a k).trans (h1.2.1 a k), fun a k ha => (h2.2.2 a k ha).trans (h1.2.2 a k ha)⟩
theorem bitU_sl {k0 : Nat} {x : Int64} : bitU M (sl M 66 k0 (gl M 66 k0 ||| x)) (fun k d => k = k0 ∧ Lb x d) := by
  refine ⟨fun k d => ?_, fun _ _ => rfl, fun a k ha => ?_⟩
  · rw [gl_sl]
    by_cases e : k = k0
    · subst e; rw [if_pos ⟨rfl, rfl⟩, Lb_or]; simp
    · rw [if_neg (fun w => e w.2)]; simp [e]
  · rw [gl_sl, if_neg (fun w => ha w.1)]
theorem bitU_st (h : bitU M N Z) {j : Nat} (hj : j ≠ 6) : stX j M N := fun a k ha => ⟨h.2.1 a k, h.2.2 a k (fun w => hj (by rw [← ha, w]; rfl))⟩
theorem lo_sub : ∀ n, n < 128 → n ≠ 0 → nI n &&& -(nI n) = nI (2 ^ lo n) ∧ nI n - nI (2 ^ lo n) = nI (n - 2 ^ lo n) ∧ pc (n - 2 ^ lo n) + 1 = pc n ∧ n - 2 ^ lo n < 128 := by decide +kernel
theorem lo_bit : ∀ n, n < 128 → n ≠ 0 → ∀ h, h < 7 → (n - 2 ^ lo n).testBit h = (n.testBit h && !(decide (h = lo n))) := by decide +kernel
theorem x_passL {S g : Nat} {x : Int64} (hS : S < 128) (hg : g ≤ 2) : ∀ (r L k m : Nat) (M : jM), pc L = r → r + k ≤ 7 → L < 128 → r < m → ∃ N k', f_X1_pass_L11 m x (nI S) (nI g) (nI L) (nI k) M = some (0, k', N) ∧ bitU M N (fun z d => (∃ h, h < 7 ∧ L.testBit h = true ∧ z = (S ||| 2 ^ h) * 3 + g) ∧ Lb x d)
  | 0, L, k, m, M, hp, hk, hL, hm => by
    obtain ⟨m', rfl⟩ : ∃ m', m = m' + 1 := ⟨m - 1, by omega⟩
    have e : L = 0 := (pc_z L hL).mp hp
    subst e
    refine ⟨M, nI k, ?_, bitU_rf (fun z d w => ?_)⟩
    · show f_X1_pass_L11_b (f_X1_pass_L11 m') x _ _ _ _ M = _
      unfold f_X1_pass_L11_b
      by_cases w : (7 : Int32) ≤ nI k
      · rw [if_pos w]; rfl
      · rw [if_neg w, if_pos (show nI 0 = 0 from rfl)]; rfl
    · obtain ⟨⟨h, _, h2, _⟩, _⟩ := w
      simp at h2
  | r + 1, L, k, m, M, hp, hk, hL, hm => by
    obtain ⟨m', rfl⟩ : ∃ m', m = m' + 1 := ⟨m - 1, by omega⟩
    have e0 : L ≠ 0 := fun w => by rw [(pc_z L hL).mpr w] at hp; omega
    obtain ⟨l1, l2, l3, l4⟩ := lo_sub L hL e0
    have l5 := lo_spec L hL e0
    have l6 := lo_bit L hL e0
    have o7 := jor7 (a := S) (h := lo L) hS l5.1
    obtain ⟨N, k', i1, i2⟩ := x_passL hS hg r (L - 2 ^ lo L) (k + 1) m' (sl M 66 ((S ||| 2 ^ lo L) * 3 + g) (gl M 66 ((S ||| 2 ^ lo L) * 3 + g) ||| x)) (by omega) (by omega) l4 (by omega)
    refine ⟨N, k', ?_, bitU_cg (bitU_tr bitU_sl i2) (fun z d => ?_)⟩
    · show f_X1_pass_L11_b (f_X1_pass_L11 m') x _ _ _ _ M = _
      unfold f_X1_pass_L11_b
      rw [if_neg (show ¬ (7 : Int32) ≤ nI k from nI_ge (b := 7) (by omega) (by decide)), if_neg (nI_ne0 (by omega) (by omega)), l1, jlet_e, l2, jlet_e, jor, show (3 : Int32) = nI 3 from rfl, pk_mul, nI_add, jg_t (jin_nI (show (S ||| 2 ^ lo L) * 3 + g < 384 by omega) (by decide)), jg_t (jin_nI (show (S ||| 2 ^ lo L) * 3 + g < 384 by omega) (by decide)), nI_clamp (show (S ||| 2 ^ lo L) * 3 + g < 2 ^ 31 by omega), jlet_e, jlet_e, nI_1, i1]
    · constructor
      · rintro (⟨h1, h2⟩ | ⟨⟨h, h1, h2, h3⟩, h4⟩)
        · exact ⟨⟨lo L, l5.1, l5.2.1, h1⟩, h2⟩
        · rw [l6 h h1, Bool.and_eq_true] at h2
          exact ⟨⟨h, h1, h2.1, h3⟩, h4⟩
      · rintro ⟨⟨h, h1, h2, h3⟩, h4⟩
        by_cases w : h = lo L
        · subst w; exact Or.inl ⟨h3, h4⟩
        · refine Or.inr ⟨⟨h, h1, ?_, h3⟩, h4⟩
          rw [l6 h h1, h2]; simp [w]
theorem x_pass {S g H : Nat} {x : Int64} (hS : S < 128) (hg : g ≤ 2) (hH : H < 128) : ∃ N, f_X1_pass x (nI S) (nI g) (nI H) M = some N ∧ bitU M N (fun z d => (∃ h, h < 7 ∧ H.testBit h = true ∧ S.testBit h = false ∧ z = (S ||| 2 ^ h) * 3 + g) ∧ Lb x d) := by
  have p7 := pc_le (dif H S)
  obtain ⟨N, k', i1, i2⟩ := x_passL (x := x) hS hg (pc (dif H S)) (dif H S) 0 jfu M rfl (by omega) (dif_lt hH) (by unfold jfu; omega)
  have i1 : f_X1_pass_L11 jfu x (nI S) (nI g) (nI (dif H S)) 0 M = _ := i1
  refine ⟨N, ?_, bitU_cg i2 (fun z d => ?_)⟩
  · unfold f_X1_pass
    rw [jdif hH hS, jlet_e, i1]; rfl
  · refine and_congr ⟨?_, ?_⟩ Iff.rfl
    · rintro ⟨h, h1, h2, h3⟩
      rw [dif_bit hH, Bool.and_eq_true, Bool.not_eq_true'] at h2
      exact ⟨h, h1, h2.1, h2.2, h3⟩
    · rintro ⟨h, h1, h2, h3, h4⟩
      exact ⟨h, h1, by rw [dif_bit hH, h2, h3]; rfl, h4⟩
theorem rdy_bit {i D : Nat} (hD : D < 64) : Lb (lN (rdy q i)) D ↔ D.testBit i = false ∧ dif (q 3 i) D = 0 ∧ com q i D = true := by
  rw [Lb_lN hD]
  unfold rdy
  rw [bts_bit]
  simp [hD]
theorem sui_bit {i h : Nat} : (sui q i).testBit h = true ↔ h < q 0 1 ∧ lit q i h = true ∧ tim q i h = true := by
  unfold sui
  rw [bts_bit]
  simp
theorem hin_z {i h D g : Nat} : hin q i h D g = 0 ↔ D.testBit i = false ∧ dif (q 3 i) D = 0 ∧ lit q i h = true ∧ tim q i h = true ∧ hun q i g = true ∧ com q i D = true := by
  unfold hin
  cases D.testBit i with
  | true => simp
  | false =>
    by_cases e : dif (q 3 i) D = 0
    · cases lit q i h <;> cases tim q i h <;> cases hun q i g <;> cases com q i D <;> simp [e]
    · simp [e]
/-- what is passed on by deed i -/
def Zi (q : Nat → Nat → Nat) (P S g : Nat) (x : Int64) (i : Nat) (z d : Nat) : Prop := hun q i g = true ∧ (∃ h, h < 7 ∧ (P &&& sui q i).testBit h = true ∧ S.testBit h = false ∧ z = (S ||| 2 ^ h) * 3 + gpb q g (i + 1)) ∧ Lb ((x &&& lN (rdy q i)) <<< ((nI (2 ^ i)).toInt64 &&& 63)) d
theorem x_sprL (hq : okP q) {P S g : Nat} {x : Int64} (hS : S < 128) (hg : g ≤ 2) (hP : P < 128) : ∀ (r i m : Nat) (M : jM), i + r = q 0 0 → r < m → hX q M → gi M 65 3 = nI P → ∃ N, f_X1_spread_L31 m (nI S) (nI g) x (nI i) M = some (nI (q 0 0), N) ∧ bitU M N (fun z d => ∃ j, i ≤ j ∧ j < q 0 0 ∧ Zi q P S g x j z d)
  | 0, i, m, M, hi, hm, hx, hp => by
    obtain ⟨m', rfl⟩ : ∃ m', m = m' + 1 := ⟨m - 1, by omega⟩
    have h6 := hq.1
    have e : i = q 0 0 := by omega
    refine ⟨M, ?_, bitU_rf (fun z d w => ?_)⟩
    · show f_X1_spread_L31_b (f_X1_spread_L31 m') _ _ _ _ M = _
      unfold f_X1_spread_L31_b
      rw [hx.1, e, if_pos (nI_le (Nat.le_refl _) (by omega))]
    · obtain ⟨j, h1, h2, _⟩ := w; omega
  | r + 1, i, m, M, hi, hm, hx, hp => by
    obtain ⟨m', rfl⟩ : ∃ m', m = m' + 1 := ⟨m - 1, by omega⟩
    have h6 := hq.1
    have h7 := hq.2.1
    obtain ⟨a1, a2, a3, a4, a5, a6⟩ := hx.2.2.1 i (by omega)
    have hpas : ∃ N, (if lg_cmp (x &&& gl M 37 i) 0 = 0 then some M else jb1 (f_X2_isHungry (nI i) (nI g) M) fun r19 => if r19 = 0 then some M else jb1 (f_X1_deedBit (nI i) M) fun r22 => jb1 (f_X1_gapBehind (nI g) (nI i) M) fun r24 => jg (jin (nI i) 6) (jb1 (f_X1_pass ((x &&& gl M 37 i) <<< (r22.toInt64 &&& 63)) (nI S) r24 (gi M 65 3 &&& gi M 38 i) M) fun M27 => some M27)) = some N ∧ bitU M N (fun z d => Zi q P S g x i z d) := by
      rw [a5]
      by_cases e : x &&& lN (rdy q i) = 0
      · rw [if_pos ((jlg_eq _ _).mpr e)]
        refine ⟨M, rfl, bitU_rf (fun z d w => ?_)⟩
        obtain ⟨_, _, w⟩ := w
        rw [Lb_shl (by omega), e] at w
        exact Lb_0 w.2.2
      · rw [if_neg (fun w => e ((jlg_eq _ _).mp w)), x_hungry hq hx (by omega) (by omega), jb1_e, b2_if]
        cases hh : hun q i g with
        | false =>
          rw [if_neg Bool.false_ne_true]
          exact ⟨M, rfl, bitU_rf (fun z d w => by have := w.1; rw [hh] at this; exact Bool.false_ne_true this)⟩
        | true =>
          have hsu : P &&& sui q i < 128 := Nat.lt_of_le_of_lt Nat.and_le_left hP
          rw [if_pos rfl, ← dI_s, x_dbt (by omega), jb1_e, x_gap hq hx (by omega) (by omega), jb1_e, dI_s, jg_t (jin_nI (show i < 6 by omega) (by decide)), hp, a6, jand, show dbt (i + 1) = 2 ^ i from by unfold dbt; rw [if_neg (by omega), Nat.add_sub_cancel]]
          obtain ⟨N, n1, n2⟩ := x_pass (M := M) (x := (x &&& lN (rdy q i)) <<< ((nI (2 ^ i)).toInt64 &&& 63)) hS (gpb_le (q := q) g (i + 1)) hsu
          rw [n1, jb1_e]
          refine ⟨N, rfl, bitU_cg n2 (fun z d => ?_)⟩
          unfold Zi
          rw [hh]; simp
    obtain ⟨N, n1, n2⟩ := hpas
    obtain ⟨K, k1, k2⟩ := x_sprL hq hS hg hP r (i + 1) m' N (by omega) (by omega) (hX_st (bitU_st n2 (by decide)) hx) (by rw [n2.2.1]; exact hp)
    refine ⟨K, ?_, bitU_cg (bitU_tr n2 k2) (fun z d => ?_)⟩
    · show f_X1_spread_L31_b (f_X1_spread_L31 m') _ _ _ _ M = _
      unfold f_X1_spread_L31_b
      rw [hx.1, if_neg (nI_ge (show i < q 0 0 by omega) (by omega)), jg_t (jin_nI (show i < 6 by omega) (by decide)), nI_clamp (show i < 2 ^ 31 by omega), jlet_e, n1, jb1_e, jlet_e, nI_1, k1]
    · constructor
      · rintro (w | ⟨j, h1, h2, w⟩)
        · exact ⟨i, Nat.le_refl _, by omega, w⟩
        · exact ⟨j, by omega, h2, w⟩
      · rintro ⟨j, h1, h2, w⟩
        by_cases e : j = i
        · subst e; exact Or.inl w
        · exact Or.inr ⟨j, by omega, h2, w⟩
theorem or_add : ∀ D, D < 64 → ∀ i, i < 6 → D.testBit i = false → D ||| 2 ^ i = D + 2 ^ i := by decide +kernel
/-- what a state with S opened, since g, passes on -/
def Zs (q : Nat → Nat → Nat) (P S g : Nat) (x : Int64) (z d : Nat) : Prop := ∃ D h e, D < 64 ∧ h < q 0 1 ∧ e ≤ q 0 0 ∧ Lb x D ∧ ldx q P (cs S D g) h e = true ∧ z = (S ||| 2 ^ h) * 3 + gpb q g e ∧ d = D ||| dbt e
theorem Zs_iff (hq : okP q) {P S g : Nat} {x : Int64} (hS : S < 128) (hg : g < 3) (hP : ∀ h, P.testBit h = true → h < q 0 1) (z d : Nat) : ((∃ h, h < 7 ∧ P.testBit h = true ∧ S.testBit h = false ∧ z = (S ||| 2 ^ h) * 3 + gpb q g 0) ∧ Lb x d) ∨ (∃ j, 0 ≤ j ∧ j < q 0 0 ∧ Zi q P S g x j z d) ↔ Zs q P S g x z d := by
  have h6 := hq.1
  have h7 := hq.2.1
  constructor
  · rintro (⟨⟨h, h1, h2, h3, h4⟩, h5⟩ | ⟨j, _, hj, w1, ⟨h, h1, h2, h3, h4⟩, w3⟩)
    · have hd := Lb_lt h5
      refine ⟨d, h, 0, hd, hP h h2, Nat.zero_le _, h5, ?_, h4, by unfold dbt; rw [if_pos rfl, Nat.or_zero]⟩
      unfold ldx
      rw [(cs_d hS hd hg).1, h2, h3]; rfl
    · rw [Lb_shl (by omega)] at w3
      obtain ⟨hd, hle, w3⟩ := w3
      rw [Lb_and] at w3
      obtain ⟨w4, w5⟩ := w3
      have hD := Lb_lt w4
      obtain ⟨r1, r2, r3⟩ := (rdy_bit hD).mp w5
      rw [Nat.testBit_and, Bool.and_eq_true] at h2
      obtain ⟨u1, u2, u3⟩ := sui_bit.mp h2.2
      refine ⟨d - 2 ^ j, h, j + 1, hD, u1, hj, w4, ?_, h4, ?_⟩
      · unfold ldx
        rw [(cs_d hS hD hg).1, (cs_d hS hD hg).2.1, (cs_d hS hD hg).2.2.1, h2.1, h3, Nat.add_sub_cancel]
        have := (hin_z (q := q) (i := j) (h := h) (D := d - 2 ^ j) (g := g)).mpr ⟨r1, r2, u2, u3, w1, r3⟩
        simp [this]
      · unfold dbt
        rw [if_neg (by omega), Nat.add_sub_cancel, or_add _ hD _ (by omega) r1]; omega
  · rintro ⟨D, h, e, hD, hh, he, w1, w2, w3, w4⟩
    obtain ⟨l1, l2, l3⟩ := ldx_b w2
    rw [(cs_d hS hD hg).1] at l2
    cases e with
    | zero =>
      left
      refine ⟨⟨h, by omega, l1, l2, w3⟩, ?_⟩
      unfold dbt at w4
      rw [if_pos rfl, Nat.or_zero] at w4
      rw [w4]; exact w1
    | succ i =>
      right
      rw [(cs_d hS hD hg).2.1, (cs_d hS hD hg).2.2.1, Nat.add_sub_cancel] at l3
      obtain ⟨z1, z2, z3, z4, z5, z6⟩ := hin_z.mp (l3.resolve_left (by omega))
      refine ⟨i, Nat.zero_le _, he, z5, ⟨h, by omega, ?_, l2, w3⟩, ?_⟩
      · rw [Nat.testBit_and, l1, sui_bit.mpr ⟨hh, z3, z4⟩]; rfl
      · have hor := or_add D hD i (by omega) z1
        have hlt := jor6 (a := D) (h := i) hD (by omega)
        unfold dbt at w4
        rw [if_neg (by omega), Nat.add_sub_cancel] at w4
        rw [Lb_shl (by omega)]
        refine ⟨by omega, by omega, ?_⟩
        rw [show d - 2 ^ i = D by omega, Lb_and]
        exact ⟨w1, (rdy_bit hD).mpr ⟨z1, z2, z6⟩⟩
theorem x_spread (hq : okP q) {P S g : Nat} (hS : S < 128) (hg : g < 3) (hP : P < 128) (hPh : ∀ h, P.testBit h = true → h < q 0 1) (hx : hX q M) (hp : gi M 65 3 = nI P) : ∃ N, f_X1_spread (nI S) (nI g) M = some N ∧ bitU M N (Zs q P S g (gl M 66 (S * 3 + g))) := by
  obtain ⟨N, n1, n2⟩ := x_pass (M := M) (x := gl M 66 (S * 3 + g)) hS (gpb_le (q := q) g 0) hP
  obtain ⟨K, k1, k2⟩ := x_sprL hq (x := gl M 66 (S * 3 + g)) hS (show g ≤ 2 by omega) hP (q 0 0) 0 jfu N (by omega) (by have := hq.1; unfold jfu; omega) (hX_st (bitU_st n2 (by decide)) hx) (by rw [n2.2.1]; exact hp)
  have k1 : f_X1_spread_L31 jfu (nI S) (nI g) (gl M 66 (S * 3 + g)) 0 N = _ := k1
  refine ⟨K, ?_, bitU_cg (bitU_tr n2 k2) (fun z d => Zs_iff hq hS hg hPh z d)⟩
  unfold f_X1_spread
  rw [show (3 : Int32) = nI 3 from rfl, pk_mul, nI_add, jg_t (jin_nI (show S * 3 + g < 384 by omega) (by decide)), nI_clamp (show S * 3 + g < 2 ^ 31 by omega), jlet_e, ← dI0, x_gap hq hx (by omega) (Nat.zero_le _), jb1_e, hp, n1, jb1_e, k1]; rfl
end JV
