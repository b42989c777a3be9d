/-! orders: what is asked of them -/
noncomputable def cd (p : Prop) : Bool := @decide p (Classical.propDecidable p)
theorem cd_t {p : Prop} : cd p = true ↔ p := @decide_eq_true_iff p (Classical.propDecidable p)
theorem cd_tt {p : Prop} (h : p) : cd p = true := cd_t.mpr h
theorem cd_ff {p : Prop} (h : ¬ p) : cd p = false := by
  cases e : cd p with
  | false => rfl
  | true => exact absurd (cd_t.mp e) h
theorem cd_cg {p r : Prop} (h : p ↔ r) : cd p = cd r := by rw [propext h]
def mxu (f : Nat → Nat) : Nat → Nat
  | 0 => 0
  | k + 1 => if mxu f k < f k then f k else mxu f k
theorem mxu_le {f : Nat → Nat} {v : Nat} : ∀ n, v + 1 ≤ mxu f n ↔ ∃ k, k < n ∧ v + 1 ≤ f k
  | 0 => ⟨fun h => absurd h (by show ¬ v + 1 ≤ 0; omega), fun ⟨_, h, _⟩ => absurd h (Nat.not_lt_zero _)⟩
  | n + 1 => by
    have ih := mxu_le (f := f) (v := v) n
    show v + 1 ≤ (if mxu f n < f n then f n else mxu f n) ↔ _
    constructor
    · intro h
      by_cases c : mxu f n < f n
      · rw [if_pos c] at h; exact ⟨n, by omega, h⟩
      · rw [if_neg c] at h
        obtain ⟨k, h1, h2⟩ := ih.mp h
        exact ⟨k, by omega, h2⟩
    · rintro ⟨k, h1, h2⟩
      by_cases e : k = n
      · subst e
        by_cases c : mxu f k < f k
        · rw [if_pos c]; exact h2
        · rw [if_neg c]; omega
      · have h3 := ih.mpr ⟨k, by omega, h2⟩
        by_cases c : mxu f n < f n
        · rw [if_pos c]; omega
        · rw [if_neg c]; exact h3
theorem mxu_bd {f : Nat → Nat} {B n : Nat} (h : ∀ k, k < n → f k ≤ B) : mxu f n ≤ B := by
  rcases Nat.lt_or_ge B (mxu f n) with w | w
  · obtain ⟨k, h1, h2⟩ := (mxu_le n).mp w
    have := h k h1
    omega
  · exact w
theorem nat_eq_le {a b : Nat} (h : ∀ v, v + 1 ≤ a ↔ v + 1 ≤ b) : a = b := by
  rcases Nat.lt_trichotomy a b with w | w | w
  · have := (h a).mpr w; omega
  · exact w
  · have := (h b).mp w; omega
theorem tm_i {a : Nat} (ha : a < 2 ^ 30) : (tm a).toInt = (a : Int) - 1 := by
  unfold tm
  rw [show (1 : Int32) = nI 1 from rfl, pk_sub_toInt ha (by decide)]; rfl
theorem tm_le {a b : Nat} (ha : a < 2 ^ 30) (hb : b < 2 ^ 30) : tm a ≤ tm b ↔ a ≤ b := by
  rw [Int32.le_iff_toInt_le, tm_i ha, tm_i hb]; omega
theorem tm_eq {a b : Nat} (ha : a < 2 ^ 30) (hb : b < 2 ^ 30) : tm a = tm b ↔ a = b := by
  rw [← Int32.toInt_inj, tm_i ha, tm_i hb]; omega
theorem tm_neg {a : Nat} (ha : a < 2 ^ 30) : tm a < 0 ↔ a = 0 := by
  rw [Int32.lt_iff_toInt_lt, tm_i ha, show (0 : Int32).toInt = 0 from rfl]; omega
def rD (T : Nat → Prop) (S D : Nat) : Prop := ∃ g, g < 3 ∧ T (cs S D g)
def dS (T : Nat → Prop) (i S : Nat) : Prop := ∃ D, D < 64 ∧ rD T S D ∧ D.testBit i = true
def Ae (e D : Nat) : Bool := decide (e = 0) || D.testBit (e - 1)
noncomputable def mxf (T : Nat → Prop) (e S k : Nat) : Nat := if (cd (T (192 * S + k)) && Ae e (k / 3 % 64)) = true then pc (k / 3 % 64) + 1 else 0
noncomputable def mx (T : Nat → Prop) (e S : Nat) : Nat := mxu (mxf T e S) 192
noncomputable def mO (T : Nat → Prop) (e W : Nat) : Nat := mxu (fun k => if dif k W = 0 then mx T e k else 0) 128
def fwl (p : Nat → Bool) (w : Nat → Nat) (a : Nat) : Nat → Nat
  | 0 => a
  | k + 1 => if (p k && decide (w k < fwl p w a k)) = true then w k else fwl p w a k
theorem fwl_cg {p r : Nat → Bool} {w : Nat → Nat} {a : Nat} : ∀ n, (∀ k, k < n → p k = r k) → fwl p w a n = fwl r w a n
  | 0, _ => rfl
  | n + 1, h => by
    show (if (p n && decide (w n < fwl p w a n)) = true then w n else fwl p w a n) = _
    rw [fwl_cg n (fun k hk => h k (by omega)), h n (by omega)]; rfl
theorem fwl_a {p : Nat → Bool} {w : Nat → Nat} {a : Nat} : ∀ n, fwl p w a n ≤ a
  | 0 => Nat.le_refl _
  | n + 1 => by
    have := fwl_a (p := p) (w := w) (a := a) n
    show (if (p n && decide (w n < fwl p w a n)) = true then w n else fwl p w a n) ≤ a
    by_cases c : (p n && decide (w n < fwl p w a n)) = true
    · rw [if_pos c]
      have : w n < fwl p w a n := by simp at c; exact c.2
      omega
    · rw [if_neg c]; exact this
theorem fwl_lt {p : Nat → Bool} {w : Nat → Nat} {a v : Nat} : ∀ n, fwl p w a n ≤ v ↔ a ≤ v ∨ ∃ k, k < n ∧ p k = true ∧ w k ≤ v
  | 0 => ⟨Or.inl, fun h => h.resolve_right (fun ⟨_, h, _⟩ => absurd h (Nat.not_lt_zero _))⟩
  | n + 1 => by
    have ih := fwl_lt (p := p) (w := w) (a := a) (v := v) n
    show (if (p n && decide (w n < fwl p w a n)) = true then w n else fwl p w a n) ≤ v ↔ _
    constructor
    · intro h
      by_cases c : (p n && decide (w n < fwl p w a n)) = true
      · rw [if_pos c] at h
        rw [Bool.and_eq_true] at c
        exact Or.inr ⟨n, by omega, c.1, h⟩
      · rw [if_neg c] at h
        rcases ih.mp h with h | ⟨k, h1, h2⟩
        · exact Or.inl h
        · exact Or.inr ⟨k, by omega, h2⟩
    · intro h
      have key : fwl p w a n ≤ v ∨ (p n = true ∧ w n ≤ v) := by
        rcases h with h | ⟨k, h1, h2, h3⟩
        · exact Or.inl (ih.mpr (Or.inl h))
        · by_cases e : k = n
          · subst e; exact Or.inr ⟨h2, h3⟩
          · exact Or.inl (ih.mpr (Or.inr ⟨k, by omega, h2, h3⟩))
      by_cases c : (p n && decide (w n < fwl p w a n)) = true
      · rw [if_pos c]
        have : w n < fwl p w a n := by simp at c; exact c.2
        rcases key with key | key <;> omega
      · rw [if_neg c]
        rcases key with key | ⟨k1, k2⟩
        · exact key
        · rw [k1] at c
          have : ¬ w n < fwl p w a n := by simpa using c
          omega
section JX
variable {q c : Nat → Nat → Nat} {M N K : jM} {T : Nat → Prop}
theorem mx_le {e S v : Nat} : v + 1 ≤ mx T e S ↔ ∃ D, D < 64 ∧ rD T S D ∧ Ae e D = true ∧ v ≤ pc D := by
  unfold mx
  rw [mxu_le]
  constructor
  · rintro ⟨k, hk, h⟩
    unfold mxf at h
    by_cases c : (cd (T (192 * S + k)) && Ae e (k / 3 % 64)) = true
    · rw [if_pos c] at h
      rw [Bool.and_eq_true, cd_t] at c
      refine ⟨k / 3 % 64, Nat.mod_lt _ (by decide), ⟨k % 3, Nat.mod_lt _ (by decide), ?_⟩, c.2, by omega⟩
      have : cs S (k / 3 % 64) (k % 3) = 192 * S + k := by unfold cs; omega
      rw [this]; exact c.1
    · rw [if_neg c] at h; omega
  · rintro ⟨D, hD, ⟨g, hg, hT⟩, hA, hv⟩
    refine ⟨3 * D + g, by omega, ?_⟩
    unfold mxf
    have e1 : (3 * D + g) / 3 % 64 = D := by omega
    have e2 : 192 * S + (3 * D + g) = cs S D g := by unfold cs; omega
    rw [e1, e2, cd_tt hT, hA, if_pos (show (true && true) = true from rfl)]
    omega
theorem mx_bd {e S : Nat} : mx T e S ≤ 8 := mxu_bd (fun k _ => by
  unfold mxf
  have := pc_le (k / 3 % 64)
  split <;> omega)
theorem mx_0 {i S : Nat} : mx T (i + 1) S = 0 ↔ ¬ dS T i S := by
  have h := mx_le (T := T) (e := i + 1) (S := S) (v := 0)
  have e : ∀ D, Ae (i + 1) D = D.testBit i := fun D => by unfold Ae; simp
  constructor
  · rintro h0 ⟨D, h1, h2, h3⟩
    have := h.mpr ⟨D, h1, h2, by rw [e]; exact h3, Nat.zero_le _⟩
    omega
  · intro h0
    rcases Nat.eq_zero_or_pos (mx T (i + 1) S) with w | w
    · exact w
    · obtain ⟨D, h1, h2, h3, _⟩ := h.mp w
      exact absurd ⟨D, h1, h2, by rw [← e]; exact h3⟩ h0
theorem mO_le {e W v : Nat} : v + 1 ≤ mO T e W ↔ ∃ S D, S < 128 ∧ dif S W = 0 ∧ D < 64 ∧ rD T S D ∧ Ae e D = true ∧ v ≤ pc D := by
  unfold mO
  rw [mxu_le]
  constructor
  · rintro ⟨S, hS, h⟩
    by_cases c : dif S W = 0
    · rw [if_pos c] at h
      obtain ⟨D, h1, h2, h3, h4⟩ := mx_le.mp h
      exact ⟨S, D, hS, c, h1, h2, h3, h4⟩
    · rw [if_neg c] at h; omega
  · rintro ⟨S, D, hS, c, h1, h2, h3, h4⟩
    exact ⟨S, hS, by rw [if_pos c]; exact mx_le.mpr ⟨D, h1, h2, h3, h4⟩⟩
theorem mO_bd {e W : Nat} : mO T e W ≤ 8 := mxu_bd (fun k _ => by
  have := mx_bd (T := T) (e := e) (S := k)
  split <;> omega)
/-! the class -/
theorem x_done {S : Nat} (hS : S < 128) : f_X1_doneBy (nI S) M = some (((0 ||| gl M 66 (S * 3 + 0)) ||| gl M 66 (S * 3 + 1)) ||| gl M 66 (S * 3 + 2)) := by
  have st : ∀ (m g : Nat) (x : Int64), g < 3 → f_X1_doneBy_L5 (m + 1) (nI S) x (nI g) M = f_X1_doneBy_L5 m (nI S) (x ||| gl M 66 (S * 3 + g)) (nI (g + 1)) M := by
    intro m g x hg
    show f_X1_doneBy_L5_b (f_X1_doneBy_L5 m) _ _ _ M = _
    unfold f_X1_doneBy_L5_b
    rw [if_neg (show ¬ (3 : Int32) ≤ nI g from nI_ge (b := 3) hg (by decide)), show (3 : Int32) = nI 3 from rfl, pk_mul, nI_add, jg_t (jin_nI (show S * 3 + g < 384 by omega) (by decide)), jlet_e, jlet_e, nI_clamp (show S * 3 + g < 2 ^ 31 by omega), nI_1]
  have e : f_X1_doneBy_L5 jfu (nI S) 0 0 M = some (((0 ||| gl M 66 (S * 3 + 0)) ||| gl M 66 (S * 3 + 1)) ||| gl M 66 (S * 3 + 2), nI 3) := by
    show f_X1_doneBy_L5 (29996 + 1 + 1 + 1 + 1) (nI S) 0 (nI 0) M = _
    rw [st _ 0 _ (by decide), st _ 1 _ (by decide), st _ 2 _ (by decide)]
    rfl
  unfold f_X1_doneBy
  rw [e]; rfl
theorem x_doneB (ha : arL M T) {S : Nat} (hS : S < 128) : ∃ x, f_X1_doneBy (nI S) M = some x ∧ ∀ D, D < 64 → (Lb x D ↔ rD T S D) := by
  refine ⟨_, x_done hS, fun D hD => ?_⟩
  rw [Lb_or, Lb_or, Lb_or, ha S D 0 hS hD (by decide), ha S D 1 hS hD (by decide), ha S D 2 hS hD (by decide)]
  constructor
  · rintro (((w | w) | w) | w)
    · exact absurd w Lb_0
    · exact ⟨0, by decide, w⟩
    · exact ⟨1, by decide, w⟩
    · exact ⟨2, by decide, w⟩
  · rintro ⟨g, hg, w⟩
    rcases (show g = 0 ∨ g = 1 ∨ g = 2 by omega) with rfl | rfl | rfl
    · exact Or.inl (Or.inl (Or.inr w))
    · exact Or.inl (Or.inr w)
    · exact Or.inr w
theorem sw_bit : ∀ i, i < 6 → ∀ D, D < 64 → ((jsL 4).getD i 0).toBitVec.getLsbD D = D.testBit i := by decide +kernel
theorem so_bit : ∀ n, n < 7 → ∀ D, D < 64 → ((jsL 3).getD n 0).toBitVec.getLsbD D = decide (pc D = n) := by decide +kernel
theorem sw_Lb {i D : Nat} (hi : i < 6) (hD : D < 64) : Lb ((jsL 4).getD i 0) D ↔ D.testBit i = true := by
  unfold Lb; rw [sw_bit i hi D hD]
theorem so_Lb {n D : Nat} (hn : n < 7) (hD : D < 64) : Lb ((jsL 3).getD n 0) D ↔ pc D = n := by
  unfold Lb; rw [so_bit n hn D hD, decide_eq_true_iff]
theorem pc6 : ∀ D, D < 64 → pc D ≤ 6 := by decide +kernel
theorem x_does (ha : arL M T) {i S : Nat} (hi : i < 6) (hS : S < 128) : f_X1_does (nI i) (nI S) M = some (b2 (cd (dS T i S))) := by
  obtain ⟨x, h1, h2⟩ := x_doneB ha hS
  unfold f_X1_does
  rw [h1, jb1_e, jg_t (jin_nI hi (by decide)), nI_clamp (show i < 2 ^ 31 by omega)]
  by_cases w : dS T i S
  · rw [cd_tt w, if_neg (fun z => ?_)]
    · rfl
    · rw [jlg_eq, Lb_z] at z
      obtain ⟨D, d1, d2, d3⟩ := w
      exact z D (Lb_and.mpr ⟨(h2 D d1).mpr d2, (sw_Lb hi d1).mpr d3⟩)
  · rw [cd_ff w, if_pos]
    · rfl
    · rw [jlg_eq, Lb_z]
      intro D z
      have hD := Lb_lt z
      rw [Lb_and] at z
      exact w ⟨D, hD, (h2 D hD).mp z.1, (sw_Lb hi hD).mp z.2⟩
theorem x_largest {x : Int64} : ∀ (n m : Nat), n ≤ 6 → n < m → (∀ D, D < 64 → Lb x D → pc D ≤ n) → ∃ L, L ≤ 6 ∧ f_X1_largestOf_L3 m x (nI n) M = some (nI L) ∧ (∀ D, D < 64 → Lb x D → pc D ≤ L) ∧ (L = 0 ∨ ∃ D, D < 64 ∧ Lb x D ∧ pc D = L)
  | 0, m, hn, hm, h => by
    obtain ⟨m', rfl⟩ : ∃ m', m = m' + 1 := ⟨m - 1, by omega⟩
    exact ⟨0, by decide, rfl, h, Or.inl rfl⟩
  | n + 1, m, hn, hm, h => by
    obtain ⟨m', rfl⟩ : ∃ m', m = m' + 1 := ⟨m - 1, by omega⟩
    have u : f_X1_largestOf_L3 (m' + 1) x (nI (n + 1)) M = f_X1_largestOf_L3_b (f_X1_largestOf_L3 m') x (nI (n + 1)) M := rfl
    rw [u]
    unfold f_X1_largestOf_L3_b
    rw [if_neg (nI_nle (by omega) (by omega)), jg_t (jin_nI (show n + 1 < 7 by omega) (by decide)), nI_clamp (show n + 1 < 2 ^ 31 by omega)]
    by_cases w : x &&& (jsL 3).getD (n + 1) 0 = 0
    · rw [if_pos ((jlg_eq _ _).mpr w), jlet_e, pk_m1]
      refine x_largest n m' (by omega) (by omega) (fun D hD hx => ?_)
      have h1 := h D hD hx
      have h2 : pc D ≠ n + 1 := fun z => Lb_z.mp w D (Lb_and.mpr ⟨hx, (so_Lb (by omega) hD).mpr z⟩)
      omega
    · rw [if_neg (fun z => w ((jlg_eq _ _).mp z))]
      obtain ⟨D, hD, z⟩ := Lb_ne.mp w
      rw [Lb_and] at z
      exact ⟨n + 1, hn, rfl, h, Or.inr ⟨D, hD, z.1, (so_Lb (by omega) hD).mp z.2⟩⟩
theorem x_mdL (ha : arL M T) {Z : Nat} (hZ : Z < 128) : ∀ (r S m : Nat) (x : Int64), S + r = 128 → r < m → ∃ y, f_X1_mostDone_L5 m (nI Z) x (nI S) M = some (y, nI 128) ∧ ∀ D, D < 64 → (Lb y D ↔ Lb x D ∨ ∃ S', S ≤ S' ∧ S' < 128 ∧ S' &&& Z = 0 ∧ rD T S' D)
  | 0, S, m, x, hS, hm => by
    obtain ⟨m', rfl⟩ : ∃ m', m = m' + 1 := ⟨m - 1, by omega⟩
    have e : S = 128 := by omega
    subst e
    exact ⟨x, rfl, fun D _ => ⟨Or.inl, fun w => w.resolve_right (fun ⟨S', h1, h2, _⟩ => by omega)⟩⟩
  | r + 1, S, m, x, hS, hm => by
    obtain ⟨m', rfl⟩ : ∃ m', m = m' + 1 := ⟨m - 1, by omega⟩
    have hst : ∃ z, (if (nI S &&& nI Z) = 0 then (jb1 (f_X1_doneBy (nI S) M) fun r9 => some r9) else some (0 : Int64)) = some z ∧ ∀ D, D < 64 → (Lb z D ↔ S &&& Z = 0 ∧ rD T S D) := by
      have hl : S &&& Z < 128 := Nat.lt_of_le_of_lt Nat.and_le_right hZ
      rw [jand]
      by_cases w : S &&& Z = 0
      · obtain ⟨z, h1, h2⟩ := x_doneB ha (show S < 128 by omega)
        refine ⟨z, by rw [w, if_pos (show nI 0 = 0 from rfl), h1]; rfl, fun D hD => ?_⟩
        rw [h2 D hD]; exact ⟨fun u => ⟨w, u⟩, fun u => u.2⟩
      · refine ⟨0, by rw [if_neg (nI_ne0 (by omega) (by omega))], fun D _ => ⟨fun u => absurd u Lb_0, fun u => absurd u.1 w⟩⟩
    obtain ⟨z, z1, z2⟩ := hst
    obtain ⟨y, y1, y2⟩ := x_mdL ha hZ r (S + 1) m' (x ||| z) (by omega) (by omega)
    refine ⟨y, ?_, fun D hD => ?_⟩
    · show f_X1_mostDone_L5_b (f_X1_mostDone_L5 m') _ _ _ M = _
      unfold f_X1_mostDone_L5_b
      rw [if_neg (show ¬ (128 : Int32) ≤ nI S from nI_ge (b := 128) (by omega) (by decide)), z1, jb1_e, jlet_e, jlet_e, nI_1, y1]
    · rw [y2 D hD, Lb_or, z2 D hD]
      constructor
      · rintro ((w | w) | ⟨S', h1, h2, h3⟩)
        · exact Or.inl w
        · exact Or.inr ⟨S, Nat.le_refl _, by omega, w⟩
        · exact Or.inr ⟨S', by omega, h2, h3⟩
      · rintro (w | ⟨S', h1, h2, h3⟩)
        · exact Or.inl (Or.inl w)
        · by_cases e : S' = S
          · subst e; exact Or.inl (Or.inr h3)
          · exact Or.inr ⟨S', by omega, h2, h3⟩
/-- the most that is done while Z stays shut, where W is what may be opened -/
theorem x_most (ha : arL M T) {Z W : Nat} (hZ : Z < 128) (h0 : ∃ D, D < 64 ∧ rD T 0 D) (hW : ∀ S D, S < 128 → D < 64 → rD T S D → (S &&& Z = 0 ↔ dif S W = 0)) : ∃ L, L ≤ 6 ∧ f_X1_mostDone (nI Z) M = some (nI L) ∧ mO T 0 W = L + 1 := by
  obtain ⟨y, y1, y2⟩ := x_mdL ha hZ 128 0 jfu 0 rfl (by decide)
  have y1 : f_X1_mostDone_L5 jfu (nI Z) 0 0 M = _ := y1
  obtain ⟨L, l1, l2, l3, l4⟩ := x_largest (M := M) (x := y) 6 jfu (by decide) (by decide) (fun D hD _ => pc6 D hD)
  have l2 : f_X1_largestOf_L3 jfu y 6 M = _ := l2
  have y3 : ∀ D, D < 64 → (Lb y D ↔ ∃ S, S < 128 ∧ dif S W = 0 ∧ rD T S D) := fun D hD => by
    rw [y2 D hD]
    constructor
    · rintro (w | ⟨S, _, h2, h3, h4⟩)
      · exact absurd w Lb_0
      · exact ⟨S, h2, (hW S D h2 hD h4).mp h3, h4⟩
    · rintro ⟨S, h2, h3, h4⟩
      exact Or.inr ⟨S, Nat.zero_le _, h2, (hW S D h2 hD h4).mpr h3, h4⟩
  refine ⟨L, l1, ?_, nat_eq_le fun v => ?_⟩
  · unfold f_X1_mostDone
    rw [y1, jb2_e]
    unfold f_X1_largestOf
    rw [l2]; rfl
  · rw [mO_le]
    constructor
    · rintro ⟨S, D, hS, h1, hD, h2, _, h3⟩
      have := l3 D hD ((y3 D hD).mpr ⟨S, hS, h1, h2⟩)
      omega
    · intro hv
      rcases l4 with rfl | ⟨D, hD, w, rfl⟩
      · obtain ⟨D, hD, h⟩ := h0
        exact ⟨0, D, by decide, by unfold dif; simp, hD, h, rfl, by omega⟩
      · obtain ⟨S, hS, h1, h2⟩ := (y3 D hD).mp w
        exact ⟨S, D, hS, h1, hD, h2, rfl, by omega⟩
theorem x_fhf (ha : arL M T) {L : Nat} (hL : L < 7) : f_X1_fewestHoursFor (nI L) M = some (nI (fwl (fun S => cd (∃ D, D < 64 ∧ rD T S D ∧ pc D = L)) pc 7 128)) := by
  have hl : f_X1_fewestHoursFor_L5 jfu (nI L) 7 0 M = some (nI (fwl (fun S => cd (∃ D, D < 64 ∧ rD T S D ∧ pc D = L)) pc 7 128), nI 128) := by
    refine jloop0 (L := fun m (s : Int32 × Int32) => f_X1_fewestHoursFor_L5 m (nI L) s.1 s.2 M) (S := fun k => (nI (fwl (fun S => cd (∃ D, D < 64 ∧ rD T S D ∧ pc D = L)) pc 7 k), nI k)) (n := 128) (by decide) ?_ ?_
    · intro m k hk
      show f_X1_fewestHoursFor_L5_b (f_X1_fewestHoursFor_L5 m) (nI L) _ (nI k) M = f_X1_fewestHoursFor_L5 m (nI L) (nI (if (cd (∃ D, D < 64 ∧ rD T k D ∧ pc D = L) && decide (pc k < fwl (fun S => cd (∃ D, D < 64 ∧ rD T S D ∧ pc D = L)) pc 7 k)) = true then pc k else fwl (fun S => cd (∃ D, D < 64 ∧ rD T S D ∧ pc D = L)) pc 7 k)) (nI (k + 1)) M
      have hf := fwl_a (p := fun S => cd (∃ D, D < 64 ∧ rD T S D ∧ pc D = L)) (w := pc) (a := 7) k
      generalize fwl (fun S => cd (∃ D, D < 64 ∧ rD T S D ∧ pc D = L)) pc 7 k = v at *
      have hp := pc_le k
      unfold f_X1_fewestHoursFor_L5_b
      rw [if_neg (show ¬ (128 : Int32) ≤ nI k from nI_ge (b := 128) (by omega) (by decide)), x_bc (by omega), jb1_e]
      obtain ⟨x, h1, h2⟩ := x_doneB ha (show k < 128 by omega)
      have e : (if nI v ≤ nI (pc k) then some (nI v) else jb1 (f_X1_doneBy (nI k) M) fun r13 => jg (jin (nI L) 7) (if lg_cmp (r13 &&& (jsL 3).getD (nI L).toNatClampNeg 0) 0 = 0 then some (nI v) else some (nI (pc k)))) = some (nI (if (cd (∃ D, D < 64 ∧ rD T k D ∧ pc D = L) && decide (pc k < v)) = true then pc k else v)) := by
        by_cases w : v ≤ pc k
        · rw [if_pos (nI_le w (by omega)), if_neg (by simp [show ¬ pc k < v by omega])]
        · rw [if_neg (nI_ge (by omega) (by omega)), h1, jb1_e, jg_t (jin_nI hL (by decide)), nI_clamp (show L < 2 ^ 31 by omega)]
          by_cases z : ∃ D, D < 64 ∧ rD T k D ∧ pc D = L
          · rw [cd_tt z, if_pos (show (true && decide (pc k < v)) = true by simp; omega), if_neg (fun u => ?_)]
            rw [jlg_eq, Lb_z] at u
            obtain ⟨D, d1, d2, d3⟩ := z
            exact u D (Lb_and.mpr ⟨(h2 D d1).mpr d2, (so_Lb hL d1).mpr d3⟩)
          · rw [cd_ff z, if_neg (show ¬ (false && decide (pc k < v)) = true by simp), if_pos]
            rw [jlg_eq, Lb_z]
            intro D u
            have hD := Lb_lt u
            rw [Lb_and] at u
            exact z ⟨D, hD, (h2 D hD).mp u.1, (so_Lb hL hD).mp u.2⟩
      rw [e, jb1_e, jlet_e, nI_1]
    · intro m; rfl
  unfold f_X1_fewestHoursFor
  rw [hl]; rfl
def e99 (v : Nat) : Int32 := if v = 99 then -9 else nI v
theorem e99u {v w : Nat} {b : Bool} (hv : v ≤ 99) (hw : w < 99) : (if b2 b = 0 then some (e99 v) else some (if e99 v = -9 then nI w else if nI w < e99 v then nI w else e99 v)) = some (e99 (if (b && decide (w < v)) = true then w else v)) := by
  rw [b2_if]
  cases b with
  | false => rfl
  | true =>
    rw [if_pos rfl]
    unfold e99
    by_cases c : v = 99
    · subst c
      rw [if_pos rfl, if_pos rfl, if_pos (show (true && decide (w < 99)) = true by simp; omega), if_neg (by omega)]
    · have h9 : ¬ nI v = -9 := fun z => nI_pos (n := v) (by omega) (by rw [z]; decide)
      rw [if_neg c, if_neg h9]
      by_cases d : w < v
      · rw [if_pos (nI_lt d (by omega)), if_pos (show (true && decide (w < v)) = true by simp; omega), if_neg (by omega)]
      · rw [if_neg (nI_nlt (by omega) (by omega)), if_neg (show ¬ (true && decide (w < v)) = true by simp; omega), if_neg c]
theorem x_fht (ha : arL M T) {i : Nat} (hi : i < 6) : f_X1_fewestHoursTo (nI i) M = some (e99 (fwl (fun S => cd (dS T i S)) pc 99 128)) := by
  have hl : f_X1_fewestHoursTo_L5 jfu (nI i) (-9) 0 M = some (e99 (fwl (fun S => cd (dS T i S)) pc 99 128), nI 128) := by
    refine jloop0 (L := fun m (s : Int32 × Int32) => f_X1_fewestHoursTo_L5 m (nI i) s.1 s.2 M) (S := fun k => (e99 (fwl (fun S => cd (dS T i S)) pc 99 k), nI k)) (n := 128) (by decide) ?_ ?_
    · intro m k hk
      show f_X1_fewestHoursTo_L5_b (f_X1_fewestHoursTo_L5 m) (nI i) _ (nI k) M = f_X1_fewestHoursTo_L5 m (nI i) (e99 (if (cd (dS T i k) && decide (pc k < fwl (fun S => cd (dS T i S)) pc 99 k)) = true then pc k else fwl (fun S => cd (dS T i S)) pc 99 k)) (nI (k + 1)) M
      have hf := fwl_a (p := fun S => cd (dS T i S)) (w := pc) (a := 99) k
      generalize fwl (fun S => cd (dS T i S)) pc 99 k = v at *
      have hp := pc_le k
      unfold f_X1_fewestHoursTo_L5_b
      rw [if_neg (show ¬ (128 : Int32) ≤ nI k from nI_ge (b := 128) (by omega) (by decide)), x_does ha hi (by omega), jb1_e, x_bc (by omega), jb1_e, jlet_e, e99u hf (by omega), jb1_e, jlet_e, nI_1]
    · intro m; rfl
  unfold f_X1_fewestHoursTo
  rw [hl]; rfl
theorem x_sef (ha : arL M T) {i : Nat} (hi : i < 6) : f_X1_setsEnoughFor (nI i) M = some (nI (cnt (fun S => cd (dS T i S)) 128)) := by
  have hl : f_X1_setsEnoughFor_L4 jfu (nI i) 0 0 M = some (nI (cnt (fun S => cd (dS T i S)) 128), nI 128) := by
    refine jloop0 (L := fun m (s : Int32 × Int32) => f_X1_setsEnoughFor_L4 m (nI i) s.1 s.2 M) (S := fun k => (nI (cnt (fun S => cd (dS T i S)) k), nI k)) (n := 128) (by decide) ?_ ?_
    · intro m k hk
      show f_X1_setsEnoughFor_L4_b (f_X1_setsEnoughFor_L4 m) (nI i) _ (nI k) M = f_X1_setsEnoughFor_L4 m (nI i) _ (nI (k + 1)) M
      unfold f_X1_setsEnoughFor_L4_b
      rw [if_neg (show ¬ (128 : Int32) ≤ nI k from nI_ge (b := 128) (by omega) (by decide)), x_does ha hi (by omega), jb1_e, jlet_e, jlet_e, jlet_e, nI_1, jb2i, jcac rfl]
    · intro m; rfl
  unfold f_X1_setsEnoughFor
  rw [hl]; rfl
/-! the reference -/
theorem Ae_m {e D : Nat} (he : e ≤ 6) (hD : D < 64) : (if dI e < 0 then some (1 : Int32) else jb1 (f_X6_has (nI D) (dI e) M) fun r => if r = 0 then some 0 else some 1) = some (b2 (Ae e D)) := by
  unfold Ae
  cases e with
  | zero => rw [dI0, if_pos m9neg]; rfl
  | succ i =>
    rw [dI_s, if_neg (nI_pos (by omega)), m_has (by omega) (by omega), jb1_e, b2_if, Nat.add_sub_cancel]
    simp only [show ¬ i + 1 = 0 by omega, decide_false, Bool.false_or]
    exact jb2s _
theorem m_fm22 {e S : Nat} (he : e ≤ 6) (hS : S < 128) : ∀ (r k m : Nat) (M : jM), k + r = 192 → r < m → arR M T → gi M 22 S = tm (mxu (mxf T e S) k) → ∃ N, f_X6_findMosts_L22 m (dI e) (nI S) (nI (192 * S + k)) M = some (nI (192 * S + 192), N) ∧ gi N 22 S = tm (mx T e S) ∧ (∀ a z, ¬ (a = 22 ∧ z = S) → gi N a z = gi M a z) ∧ ∀ a z, gl N a z = gl M a z
  | 0, k, m, M, hk, hm, ha, hg => by
    obtain ⟨m', rfl⟩ : ∃ m', m = m' + 1 := ⟨m - 1, by omega⟩
    have e1 : k = 192 := by omega
    subst e1
    refine ⟨M, ?_, hg, fun _ _ _ => rfl, fun _ _ => rfl⟩
    show f_X6_findMosts_L22_b (f_X6_findMosts_L22 m') _ _ _ M = _
    unfold f_X6_findMosts_L22_b
    rw [show (192 : Int32) * nI S + 192 = nI (192 * S + 192) from by rw [show (192 : Int32) = nI 192 from rfl, pk_mul, nI_add], if_pos (nI_le (Nat.le_refl _) (by omega))]
  | r + 1, k, m, M, hk, hm, ha, hg => by
    obtain ⟨m', rfl⟩ : ∃ m', m = m' + 1 := ⟨m - 1, by omega⟩
    have hx : 192 * S + k < 24576 := by omega
    obtain ⟨c1, c2, c3⟩ := m_cd hx
    have eD : (192 * S + k) / 3 % 64 = k / 3 % 64 := by omega
    have hD : k / 3 % 64 < 64 := Nat.mod_lt _ (by decide)
    have hb : mxu (mxf T e S) k ≤ 8 := mxu_bd (fun k _ => by
      unfold mxf
      have := pc_le (k / 3 % 64)
      split <;> omega)
    have e1 : (if gi M 20 (192 * S + k) = 0 then some (0 : Int32) else if dI e < 0 then some 1 else jb1 (f_X6_has (nI (k / 3 % 64)) (dI e) M) fun r14 => if r14 = 0 then some 0 else some 1) = some (b2 (cd (T (192 * S + k)) && Ae e (k / 3 % 64))) := by
      rw [Ae_m he hD]
      by_cases w : T (192 * S + k)
      · rw [(ha _ hx).1 w, if_neg j10, cd_tt w]; rfl
      · rw [(ha _ hx).2 w, if_pos rfl, cd_ff w]; rfl
    have e2 : (if b2 (cd (T (192 * S + k)) && Ae e (k / 3 % 64)) = 0 then jg (jin (nI S) 128) (some (gi M 22 (nI S).toNatClampNeg)) else jb1 (f_X6_ones (nI (k / 3 % 64)) M) fun r31 => jg (jin (nI S) 128) (if r31 ≤ gi M 22 (nI S).toNatClampNeg then jg (jin (nI S) 128) (some (gi M 22 (nI S).toNatClampNeg)) else jb1 (f_X6_ones (nI (k / 3 % 64)) M) fun r36 => some r36)) = some (tm (mxu (mxf T e S) (k + 1))) := by
      show _ = some (tm (if mxu (mxf T e S) k < mxf T e S k then mxf T e S k else mxu (mxf T e S) k))
      rw [b2_if, nI_clamp (show S < 2 ^ 31 by omega), hg, jg_t (jin_nI hS (by decide))]
      have hp := pc_le (k / 3 % 64)
      have hmf : mxf T e S k = if (cd (T (192 * S + k)) && Ae e (k / 3 % 64)) = true then pc (k / 3 % 64) + 1 else 0 := rfl
      rw [hmf]
      generalize mxu (mxf T e S) k = v at *
      cases hc : (cd (T (192 * S + k)) && Ae e (k / 3 % 64)) with
      | false =>
        rw [if_neg Bool.false_ne_true, if_neg Bool.false_ne_true, if_neg (Nat.not_lt_zero _)]
      | true =>
        rw [if_pos rfl, if_pos rfl, m_on (by omega), jb1_e, jg_t (jin_nI hS (by decide)), jb1_e, ← tmS]
        by_cases w : v < pc (k / 3 % 64) + 1
        · rw [if_pos w, if_neg (fun z => by
            have := (tm_le (by omega) (by omega)).mp z
            omega)]
        · rw [if_neg w, if_pos ((tm_le (by omega) (by omega)).mpr (by omega))]
    obtain ⟨N, n1, n2, n3, n4⟩ := m_fm22 he hS r (k + 1) m' (si M 22 S (tm (mxu (mxf T e S) (k + 1)))) (by omega) (by omega) (fun y hy => by
      rw [gi_si, if_neg (by omega)]; exact ha y hy) (by rw [gi_si, if_pos ⟨rfl, rfl⟩])
    refine ⟨N, ?_, n2, fun a z hz => ?_, fun a z => n4 a z⟩
    · show f_X6_findMosts_L22_b (f_X6_findMosts_L22 m') _ _ _ M = _
      unfold f_X6_findMosts_L22_b
      rw [show (192 : Int32) * nI S + 192 = nI (192 * S + 192) from by rw [show (192 : Int32) = nI 192 from rfl, pk_mul, nI_add], if_neg (nI_ge (by omega) (by omega)), c2, eD, jlet_e, jg_t (jin_nI hx (by decide)), nI_clamp (show 192 * S + k < 2 ^ 31 by omega), e1, jb1_e, e2, jb1_e, jg_t (jin_nI hS (by decide)), nI_clamp (show S < 2 ^ 31 by omega), jlet_e, jlet_e, nI_1, ← n1]
      rfl
    · rw [n3 a z hz, gi_si, if_neg hz]
theorem m_fm2 {e : Nat} (he : e ≤ 6) : ∀ (r S m : Nat) (M : jM), S + r = 128 → r < m → arR M T → (∀ z, z < S → gi M 22 z = tm (mx T e z)) → ∃ N, f_X6_findMosts_L2 m (dI e) (nI S) M = some (nI 128, N) ∧ (∀ z, z < 128 → gi N 22 z = tm (mx T e z)) ∧ (∀ a z, a ≠ 22 → gi N a z = gi M a z) ∧ ∀ a z, gl N a z = gl M a z
  | 0, S, m, M, hS, hm, ha, hg => by
    obtain ⟨m', rfl⟩ : ∃ m', m = m' + 1 := ⟨m - 1, by omega⟩
    have e1 : S = 128 := by omega
    subst e1
    exact ⟨M, rfl, hg, fun _ _ _ => rfl, fun _ _ => rfl⟩
  | r + 1, S, m, M, hS, hm, ha, hg => by
    obtain ⟨m', rfl⟩ : ∃ m', m = m' + 1 := ⟨m - 1, by omega⟩
    obtain ⟨N, n1, n2, n3, n4⟩ := m_fm22 (T := T) he (show S < 128 by omega) 192 0 jfu (si M 22 S (-1)) rfl (by decide) (fun y hy => by
      rw [gi_si, if_neg (by omega)]; exact ha y hy) (by rw [gi_si, if_pos ⟨rfl, rfl⟩]; rfl)
    obtain ⟨K, k1, k2, k3, k4⟩ := m_fm2 he r (S + 1) m' N (by omega) (by omega) (fun y hy => by
      rw [n3 _ _ (by omega), gi_si, if_neg (by omega)]; exact ha y hy) (fun z hz => by
      by_cases w : z = S
      · subst w; exact n2
      · rw [n3 _ _ (fun u => w u.2), gi_si, if_neg (fun u => w u.2)]; exact hg z (by omega))
    refine ⟨K, ?_, k2, fun a z hz => ?_, fun a z => (k4 a z).trans (n4 a z)⟩
    · show f_X6_findMosts_L2_b (f_X6_findMosts_L2 m') _ _ M = _
      unfold f_X6_findMosts_L2_b
      rw [if_neg (show ¬ (128 : Int32) ≤ nI S from nI_ge (b := 128) (by omega) (by decide)), jg_t (jin_nI (show S < 128 by omega) (by decide)), nI_clamp (show S < 2 ^ 31 by omega), jlet_e, jlet_e, show (192 : Int32) * nI S = nI (192 * S + 0) from pk_mul 192 S, n1, jb2_e, jlet_e, nI_1, k1]
    · rw [k3 a z hz, n3 a z (fun u => hz u.1), gi_si, if_neg (fun u => hz u.1)]
theorem m_fm {e : Nat} (he : e ≤ 6) (ha : arR M T) : ∃ N, f_X6_findMosts (dI e) M = some N ∧ (∀ z, z < 128 → gi N 22 z = tm (mx T e z)) ∧ (∀ a z, a ≠ 22 → gi N a z = gi M a z) ∧ ∀ a z, gl N a z = gl M a z := by
  obtain ⟨N, n1, n2⟩ := m_fm2 (T := T) he 128 0 jfu M rfl (by decide) ha (fun z hz => absurd hz (Nat.not_lt_zero _))
  have n1 : f_X6_findMosts_L2 jfu (dI e) 0 M = _ := n1
  refine ⟨N, ?_, n2⟩
  unfold f_X6_findMosts
  rw [n1]; rfl
theorem m_mostOf {e W : Nat} (hW : W < 128) (hg : ∀ z, z < 128 → gi M 22 z = tm (mx T e z)) : f_X6_mostOf (nI W) M = some (tm (mO T e W)) := by
  have hl : f_X6_mostOf_L4 jfu (nI W) (-1) 0 M = some (tm (mO T e W), nI 128) := by
    refine jloop0 (L := fun m (s : Int32 × Int32) => f_X6_mostOf_L4 m (nI W) s.1 s.2 M) (S := fun k => (tm (mxu (fun k => if dif k W = 0 then mx T e k else 0) k), nI k)) (n := 128) (by decide) ?_ ?_
    · intro m k hk
      show f_X6_mostOf_L4_b (f_X6_mostOf_L4 m) (nI W) _ (nI k) M = f_X6_mostOf_L4 m (nI W) (tm (if mxu (fun k => if dif k W = 0 then mx T e k else 0) k < (if dif k W = 0 then mx T e k else 0) then (if dif k W = 0 then mx T e k else 0) else mxu (fun k => if dif k W = 0 then mx T e k else 0) k)) (nI (k + 1)) M
      have hb : mxu (fun k => if dif k W = 0 then mx T e k else 0) k ≤ 8 := mxu_bd (fun k _ => by
        have := mx_bd (T := T) (e := e) (S := k)
        split <;> omega)
      generalize mxu (fun k => if dif k W = 0 then mx T e k else 0) k = v at *
      have hm := mx_bd (T := T) (e := e) (S := k)
      have hd := dif_lt (a := k) (b := W) (by omega)
      unfold f_X6_mostOf_L4_b
      have e1 : (if nI k &&& (nI W ^^^ -1) = 0 then jg (jin (nI k) 128) (if gi M 22 (nI k).toNatClampNeg ≤ tm v then some (tm v) else jg (jin (nI k) 128) (some (gi M 22 (nI k).toNatClampNeg))) else some (tm v)) = some (tm (if v < (if dif k W = 0 then mx T e k else 0) then (if dif k W = 0 then mx T e k else 0) else v)) := by
        rw [jdif (by omega) hW]
        by_cases w : dif k W = 0
        · rw [w, if_pos (show nI 0 = 0 from rfl), if_pos rfl, jg_t (jin_nI hk (by decide)), jg_t (jin_nI hk (by decide)), nI_clamp (show k < 2 ^ 31 by omega), hg k hk]
          by_cases u : v < mx T e k
          · rw [if_pos u, if_neg (fun z => by have := (tm_le (by omega) (by omega)).mp z; omega)]
          · rw [if_neg u, if_pos ((tm_le (by omega) (by omega)).mpr (by omega))]
        · rw [if_neg (nI_ne0 (by omega) (by omega)), if_neg w, if_neg (Nat.not_lt_zero _)]
      rw [if_neg (show ¬ (128 : Int32) ≤ nI k from nI_ge (b := 128) hk (by decide)), e1, jb1_e, jlet_e, nI_1]
    · intro m; rfl
  unfold f_X6_mostOf
  rw [hl]; rfl
theorem m_most44 {B : Nat} {e : Nat} (hB : B < 10) (hg : ∀ z, z < 128 → gi M 22 z = tm (mx T e z)) : f_X6_most_L44 jfu (tm B) 7 0 M = some (nI (fwl (fun S => decide (mx T e S = B)) pc 7 128), nI 128) := by
  refine jloop0 (L := fun m (s : Int32 × Int32) => f_X6_most_L44 m (tm B) s.1 s.2 M) (S := fun k => (nI (fwl (fun S => decide (mx T e S = B)) pc 7 k), nI k)) (n := 128) (by decide) ?_ ?_
  · intro m k hk
    show f_X6_most_L44_b (f_X6_most_L44 m) (tm B) _ (nI k) M = f_X6_most_L44 m (tm B) (nI (if (decide (mx T e k = B) && decide (pc k < fwl (fun S => decide (mx T e S = B)) pc 7 k)) = true then pc k else fwl (fun S => decide (mx T e S = B)) pc 7 k)) (nI (k + 1)) M
    have hf := fwl_a (p := fun S => decide (mx T e S = B)) (w := pc) (a := 7) k
    generalize fwl (fun S => decide (mx T e S = B)) pc 7 k = v at *
    have hp := pc_le k
    have hm := mx_bd (T := T) (e := e) (S := k)
    unfold f_X6_most_L44_b
    have e1 : (if gi M 22 (nI k).toNatClampNeg = tm B then jb1 (f_X6_ones (nI k) M) fun r13 => if nI v ≤ r13 then some (nI v) else jb1 (f_X6_ones (nI k) M) fun r16 => some r16 else some (nI v)) = some (nI (if (decide (mx T e k = B) && decide (pc k < v)) = true then pc k else v)) := by
      rw [nI_clamp (show k < 2 ^ 31 by omega), hg k hk, m_on (by omega), jb1_e]
      by_cases w : mx T e k = B
      · rw [w, if_pos rfl]
        by_cases u : v ≤ pc k
        · rw [if_pos (nI_le u (by omega)), if_neg (by simp; omega)]
        · rw [if_neg (nI_ge (by omega) (by omega)), jb1_e, if_pos (by simp; omega)]
      · rw [if_neg (fun z => w ((tm_eq (by omega) (by omega)).mp z)), if_neg (by simp [w])]
    rw [if_neg (show ¬ (128 : Int32) ≤ nI k from nI_ge (b := 128) hk (by decide)), jg_t (jin_nI hk (by decide)), e1, jb1_e, jlet_e, nI_1]
  · intro m; rfl
theorem m_few34 {e : Nat} (hg : ∀ z, z < 128 → gi M 22 z = tm (mx T e z)) : f_X6_fewest_L34 jfu 99 0 M = some (nI (fwl (fun S => !(decide (mx T e S = 0))) pc 99 128), nI 128) := by
  refine jloop0 (L := fun m (s : Int32 × Int32) => f_X6_fewest_L34 m s.1 s.2 M) (S := fun k => (nI (fwl (fun S => !(decide (mx T e S = 0))) pc 99 k), nI k)) (n := 128) (by decide) ?_ ?_
  · intro m k hk
    show f_X6_fewest_L34_b (f_X6_fewest_L34 m) _ (nI k) M = f_X6_fewest_L34 m (nI (if (!(decide (mx T e k = 0)) && decide (pc k < fwl (fun S => !(decide (mx T e S = 0))) pc 99 k)) = true then pc k else fwl (fun S => !(decide (mx T e S = 0))) pc 99 k)) (nI (k + 1)) M
    have hf := fwl_a (p := fun S => !(decide (mx T e S = 0))) (w := pc) (a := 99) k
    generalize fwl (fun S => !(decide (mx T e S = 0))) pc 99 k = v at *
    have hp := pc_le k
    have hm := mx_bd (T := T) (e := e) (S := k)
    unfold f_X6_fewest_L34_b
    have e1 : (if gi M 22 (nI k).toNatClampNeg < 0 then some (nI v) else jb1 (f_X6_ones (nI k) M) fun r13 => if nI v ≤ r13 then some (nI v) else jb1 (f_X6_ones (nI k) M) fun r16 => some r16) = some (nI (if (!(decide (mx T e k = 0)) && decide (pc k < v)) = true then pc k else v)) := by
      rw [nI_clamp (show k < 2 ^ 31 by omega), hg k hk, m_on (by omega), jb1_e]
      by_cases w : mx T e k = 0
      · rw [if_pos ((tm_neg (by omega)).mpr w), if_neg (by simp [w])]
      · rw [if_neg (fun z => w ((tm_neg (by omega)).mp z))]
        by_cases u : v ≤ pc k
        · rw [if_pos (nI_le u (by omega)), if_neg (by simp; omega)]
        · rw [if_neg (nI_ge (by omega) (by omega)), jb1_e, if_pos (by simp; omega)]
    rw [if_neg (show ¬ (128 : Int32) ≤ nI k from nI_ge (b := 128) hk (by decide)), jg_t (jin_nI hk (by decide)), e1, jb1_e, jlet_e, nI_1]
  · intro m; rfl
theorem m_odd36 {e P : Nat} (hP : P < 128) (hg : ∀ z, z < 128 → gi M 22 z = tm (mx T e z)) : f_X6_odds_L36 jfu (nI P) 0 0 M = some (nI (cnt (fun S => decide (dif S P = 0) && !(decide (mO T e S = 0))) 128), nI 128) := by
  refine jloop0 (L := fun m (s : Int32 × Int32) => f_X6_odds_L36 m (nI P) s.1 s.2 M) (S := fun k => (nI (cnt (fun S => decide (dif S P = 0) && !(decide (mO T e S = 0))) k), nI k)) (n := 128) (by decide) ?_ ?_
  · intro m k hk
    show f_X6_odds_L36_b (f_X6_odds_L36 m) (nI P) _ (nI k) M = f_X6_odds_L36 m (nI P) _ (nI (k + 1)) M
    have hd := dif_lt (a := k) (b := P) (by omega)
    have hm := mO_bd (T := T) (e := e) (W := k)
    unfold f_X6_odds_L36_b
    have e1 : (if nI k &&& (nI P ^^^ -1) = 0 then jb1 (f_X6_mostOf (nI k) M) fun r10 => if r10 < 0 then some 0 else some 1 else some 0) = some (b2 (decide (dif k P = 0) && !(decide (mO T e k = 0)))) := by
      rw [jdif (by omega) hP]
      by_cases w : dif k P = 0
      · rw [w, if_pos (show nI 0 = 0 from rfl), m_mostOf hk hg, jb1_e]
        by_cases u : mO T e k = 0
        · rw [if_pos ((tm_neg (by omega)).mpr u)]; simp [u, b2]
        · rw [if_neg (fun z => u ((tm_neg (by omega)).mp z))]; simp [u, b2]
      · rw [if_neg (nI_ne0 (by omega) (by omega))]; simp [w, b2]
    rw [if_neg (show ¬ (128 : Int32) ≤ nI k from nI_ge (b := 128) hk (by decide)), e1, jb1_e, jlet_e, jlet_e, nI_1, jcac rfl]
  · intro m; rfl
end JX
