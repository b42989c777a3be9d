/-! the reference's steps; day, open, send -/
def nt (M : jM) (n : Nat) : jM := si (jcp M (gi M 12) 0 13 (12 * n) 12) 0 15 (nI (n + 1))
section JK
variable {q c : Nat → Nat → Nat} {M N Mx Mm Nx Nm : jM} {k h d : Nat}
theorem nt_11 {n : Nat} (z : Nat) : gi (nt M n) 11 z = gi M 11 z := by
  unfold nt; rw [gi_si, if_neg (by omega), gi_jcp, if_neg (by omega)]
theorem nt_12 {n : Nat} (z : Nat) : gi (nt M n) 12 z = gi M 12 z := by
  unfold nt; rw [gi_si, if_neg (by omega), gi_jcp, if_neg (by omega)]
theorem nt_13 {n : Nat} (z : Nat) : gi (nt M n) 13 z = if 12 * n ≤ z ∧ z < 12 * n + 12 then gi M 12 (z - 12 * n) else gi M 13 z := by
  unfold nt; rw [gi_si, if_neg (by omega), gi_jcp]
  by_cases e : 12 * n ≤ z ∧ z < 12 * n + 12
  · rw [if_pos ⟨rfl, e⟩, if_pos e, Nat.zero_add]
  · rw [if_neg (fun w => e w.2), if_neg e]
theorem nt_15 {n : Nat} : gi (nt M n) 0 15 = nI (n + 1) := by
  unfold nt; rw [gi_si, if_pos ⟨rfl, rfl⟩]
theorem nt_st {n j : Nat} (hj : j ≠ 4) : stM j M (nt M n) := stM_tr (stM_jcp (fun _ w => hj (w.symm.trans rfl))) (stM_si (fun w => hj (w.symm.trans rfl)))
theorem e12 (n k : Nat) : (12 : Int32) * nI n + nI k = nI (12 * n + k) := by rw [show (12 : Int32) = nI 12 from rfl, pk_mul, nI_add]
theorem m_note (H : CM q c M) (hn : c 1 0 < 40) : f_X6_note M = some (nt M (c 1 0)) := by
  have hl : f_X6_note_L2 jfu 0 M = some (nI 12, jcp M (gi M 12) 0 13 (12 * c 1 0) 12) := by
    have e := jloop0 (L := fun m (s : Int32 × jM) => f_X6_note_L2 m s.1 s.2) (S := fun z => (nI z, jcp M (gi M 12) 0 13 (12 * c 1 0) z)) (r := (nI 12, jcp M (gi M 12) 0 13 (12 * c 1 0) 12)) (n := 12) (by decide) ?_ (fun m => rfl)
    · rw [jcp_0] at e; exact e
    · intro m z hz
      show f_X6_note_L2_b (f_X6_note_L2 m) (nI z) _ = f_X6_note_L2 m (nI (z + 1)) _
      unfold f_X6_note_L2_b
      have e1 : gi (jcp M (gi M 12) 0 13 (12 * c 1 0) z) 0 15 = nI (c 1 0) := by rw [gi_jcp, if_neg (by omega)]; exact m15 H
      have e2 : gi (jcp M (gi M 12) 0 13 (12 * c 1 0) z) 12 z = gi M 12 (0 + z) := by rw [gi_jcp, if_neg (by omega), Nat.zero_add]
      rw [if_neg (show ¬ (12 : Int32) ≤ nI z from nI_ge (b := 12) hz (by decide)), jg_t (jin_nI hz (by decide))]
      dsimp only
      rw [e1, e12, jg_t (jin_nI (show 12 * c 1 0 + z < 480 by omega) (by decide)), nI_clamp (show z < 2 ^ 31 by omega), nI_clamp (show 12 * c 1 0 + z < 2 ^ 31 by omega), e2, jcp_step, jlet_e, jlet_e, nI_1]
  unfold f_X6_note
  rw [hl, jb2_e, gi_jcp, if_neg (by omega), m15 H, nI_1]
  rfl
theorem h0_of (hq : okP q) (hh : h < q 0 1) : q 0 0 ≠ 0 := fun w => by have := hq.2.2.1 w; omega
theorem cM_app (hc : cM q c M) (h0 : q 0 0 ≠ 0) (f15 : gi N 0 15 = nI (c 1 0 + 1)) (f12 : ∀ j, j < 12 → gi N 12 j = enc j (stp q (vec q c (c 1 0)) k h d j)) (f13 : ∀ z, gi N 13 z = if 12 * c 1 0 ≤ z ∧ z < 12 * c 1 0 + 12 then gi M 12 (z - 12 * c 1 0) else gi M 13 z) (f11 : ∀ z, gi N 11 z = gi M 11 z) : cM q (app c k h d) N := by
  obtain ⟨h1, h2, h3, h4⟩ := hc
  refine ⟨f15, fun j hj => ?_, fun s hs j hj => ?_, fun z hz => ?_⟩
  · rw [app_1, app_vn]; exact fun _ => f12 j hj
  · rw [app_1] at hs
    rw [f13, app_v (by omega)]
    by_cases e : s = c 1 0
    · subst e
      rw [if_pos (by omega), show 12 * c 1 0 + j - 12 * c 1 0 = j by omega]; exact h2 j hj (Or.inr h0)
    · rw [if_neg (by omega)]; exact h3 s (by omega) j hj
  · rw [f11]; exact h4 z hz
theorem st_ok (R : Rl Q1 Mx Mm) (H : Q2 q c Mx Mm) (hn : c 1 0 < 40) (l : lgl q c (vec q c (c 1 0)) k h d) (hx : cX 39 q (app c k h d) Nx) (sx : ∀ j, j ≠ 4 → stX j Mx Nx) (hm : cM q (app c k h d) Nm) (sm : ∀ j, j ≠ 4 → stM j Mm Nm) : Q2 q (app c k h d) Nx Nm ∧ Rl Q1 Nx Nm := by
  have h2 : Q2 q (app c k h d) Nx Nm := ⟨H.1, hX_st (sx 3 (by decide)) H.2.1, hM_st (sm 3 (by decide)) H.2.2.1, app_ok H.2.2.2.1 hn l, hx, hm, fun z hz => kp_st (sx 5 (by decide)) (sm 5 (by decide)) hz (H.2.2.2.2.2.2 z hz)⟩
  exact ⟨h2, rl_cour R (fun j hj => sx j (by omega)) (fun j hj => sm j (by omega)) ⟨q, _, h2⟩⟩
theorem m_full (H : CM q c M) {α : Type} (x y : α) : (if gi M 0 15 = 40 then x else y) = if decide (40 ≤ c 1 0) = true then x else y := by
  have b := vbd H.1 H.2.2.1
  rw [m15 H]
  by_cases e : c 1 0 = 40
  · rw [e]; rfl
  · rw [if_neg (show ¬ nI (c 1 0) = 40 from fun w => e ((nI_eq (b := 40) (by omega) (by decide)).mp w)), if_neg (by simp; omega)]
theorem m_dayN (H : CM q c M) (h0 : q 0 0 ≠ 0) (hn : c 1 0 < 40) : ∃ N, (jb1 (f_X6_note M) fun M3 => (jlet (si M3 12 (0 : Int32).toNatClampNeg ((gi M3 12 (0 : Int32).toNatClampNeg) + (1 : Int32))) fun M5 => (some ((gi M5 12 (0 : Int32).toNatClampNeg), M5)))) = some (nI (vec q c (c 1 0) 0 + 1), N) ∧ cM q (app c 0 0 0) N ∧ ∀ j, j ≠ 4 → stM j M N := by
  rw [m_note H hn, jb1_e, jlet_e, show gi (nt M (c 1 0)) 12 (0 : Int32).toNatClampNeg = nI (vec q c (c 1 0) 0) from (nt_12 _).trans (m12_0 H), nI_1, gi_si, if_pos ⟨rfl, rfl⟩]
  refine ⟨_, rfl, ?_, fun j hj => stM_tr (nt_st hj) (stM_si (fun w => hj (w.symm.trans rfl)))⟩
  refine cM_app H.2.2.2 h0 ?_ (fun j hj => ?_) (fun z => ?_) (fun z => ?_)
  · rw [gi_si, if_neg (by omega), nt_15]
  · rw [gi_si, stp0]
    by_cases e : j = 0
    · subst e; rw [if_pos ⟨rfl, rfl⟩, if_pos rfl]; rfl
    · rw [if_neg (show ¬ (12 = 12 ∧ j = (0 : Int32).toNatClampNeg) from fun w => e w.2), if_neg e, nt_12]; exact H.2.2.2.2.1 j hj (Or.inr h0)
  · rw [gi_si, if_neg (by omega), nt_13]
  · rw [gi_si, if_neg (by omega), nt_11]
theorem s_day : kS_day (Rl Q1) := by
  intro Mx Mm R
  obtain ⟨q, c, H⟩ := R.2.2.2
  unfold f_X5_day f_X6_day
  rw [H.2.1.1, H.2.2.1.1, jd0 H.1, jd0 H.1]
  by_cases e : q 0 0 = 0
  · rw [if_pos e, if_pos e]; exact ⟨_, Mx, Mm, rfl, rfl, R⟩
  · rw [if_neg e, if_neg e, x_full (H_cx H), jb1_e, b2_if, m_full (H_cm H)]
    by_cases f : 40 ≤ c 1 0
    · rw [if_pos (by simp [f]), if_pos (by simp [f])]; exact ⟨_, Mx, Mm, rfl, rfl, R⟩
    · rw [if_neg (by simp [f]), if_neg (by simp [f])]
      obtain ⟨Nx, e1, e2, e3, e4, _⟩ := x_day (by omega) (H_cx H)
      obtain ⟨Nm, f1, f2, f3⟩ := m_dayN (H_cm H) e (by omega)
      rw [e1, jb1_e, f1, e4]
      exact ⟨_, _, _, rfl, rfl, (st_ok R H (by omega) (Or.inl ⟨rfl, rfl, rfl⟩) e2 e3 f2 f3).2⟩
theorem m_onsh (H : CM q c M) (hh : h < q 0 1) : f_X6_isOnShelf (nI h) M = some (b2 ((shf q c (vec q c (c 1 0)) (vec q c (c 1 0) 0)).testBit h)) := by
  have b := vbd H.1 H.2.2.1
  have hs := shf_lt (c := c) (v := vec q c (c 1 0)) (d := vec q c (c 1 0) 0) H.1
  unfold f_X6_isOnShelf
  rw [m12_0 H, m_shelf H (by omega), jb1_e, m_has (by omega) (by omega), jb1_e, jg_t (b2_g _)]
theorem whr1 (hh : h < q 0 1) {v : Nat → Nat} : decide (whr q c v h = 1) = (shf q c v (v 0)).testBit h := by
  rw [shf_bit]
  unfold whr
  cases (v 1).testBit h <;> cases (v 2).testBit h <;> by_cases e : cmg q c h ≤ v 0 <;> simp [e, hh]
theorem jone {α : Type} {n : Nat} (hn : n < 2 ^ 31) (x y : α) : (if nI n = 1 then x else y) = if decide (n = 1) = true then x else y := by
  by_cases e : n = 1
  · subst e; rfl
  · rw [if_neg (show ¬ nI n = 1 from fun w => e ((nI_eq (b := 1) hn (by decide)).mp w)), if_neg (by simp [e])]
theorem x_onsh (H : CX q c M) (hh : h < q 0 1) {α : Type} (x y : α) : (if nI (whr q c (vec q c (c 1 0)) h) = 1 then x else y) = if (shf q c (vec q c (c 1 0)) (vec q c (c 1 0) 0)).testBit h = true then x else y := by
  have := whr_le (q := q) (c := c) (vec q c (c 1 0)) h
  rw [jone (by omega), whr1 hh]
theorem onsh_lgl (hs : (shf q c (vec q c (c 1 0)) (vec q c (c 1 0) 0)).testBit h = true) (hk : k = 2 ∧ d = 0 ∨ k = 1 ∧ d ≤ q 0 0) : lgl q c (vec q c (c 1 0)) k h d := by
  rw [shf_bit] at hs
  simp at hs
  exact Or.inr ⟨hs.1, hs.2.2.1, hs.2.2.2, hs.2.1, hk⟩
theorem s_send : kS_send (Rl Q1) := by
  intro a1 Mx Mm R
  obtain ⟨q, c, H⟩ := R.2.2.2
  have b := vbd H.1 H.2.2.2.1
  unfold f_X5_send f_X6_send
  rcases jdeed q H.1 a1 1 (Or.inr rfl) with b | ⟨h, hh, rfl⟩
  · rw [x_hh_f H.2.1 b, m_hh_f H.1 H.2.2.1 b]
    exact ⟨-1, Mx, Mm, rfl, rfl, R⟩
  · rw [x_hh_t H.1 H.2.1 hh, jb1_e, if_neg j10, m_hh_t H.1 H.2.2.1 hh, jb1_e, if_neg j10, x_where (H_cx H) hh, jb1_e, x_onsh (H_cx H) hh, m_onsh (H_cm H) hh, jb1_e, b2_if]
    by_cases e : (shf q c (vec q c (c 1 0)) (vec q c (c 1 0) 0)).testBit h = true
    · rw [if_pos e, if_pos e, x_full (H_cx H), jb1_e, b2_if, m_full (H_cm H)]
      by_cases f : 40 ≤ c 1 0
      · rw [if_pos (by simp [f]), if_pos (by simp [f])]; exact ⟨_, Mx, Mm, rfl, rfl, R⟩
      · rw [if_neg (by simp [f]), if_neg (by simp [f])]
        obtain ⟨Nx, e1, e2, e3, _⟩ := x_send (by omega) (H_cx H) hh
        rw [e1, jb1_e, m_note (H_cm H) (by omega), jb1_e, jlet_e, show gi (nt Mm (c 1 0)) 12 (2 : Int32).toNatClampNeg = nI (vec q c (c 1 0) 2) from (nt_12 _).trans (m12_2 (H_cm H)), jshl h (by omega), jor]
        have f2 : cM q (app c 2 h 0) (si (nt Mm (c 1 0)) 12 (2 : Int32).toNatClampNeg (nI (vec q c (c 1 0) 2 ||| 2 ^ h))) := by
          refine cM_app H.2.2.2.2.2.1 (h0_of H.1 hh) ?_ (fun j hj => ?_) (fun z => ?_) (fun z => ?_)
          · rw [gi_si, if_neg (by omega), nt_15]
          · rw [gi_si, stp2]
            by_cases w : j = 2
            · subst w; rw [if_pos ⟨rfl, rfl⟩, if_pos rfl]; rfl
            · rw [if_neg (show ¬ (12 = 12 ∧ j = (2 : Int32).toNatClampNeg) from fun u => w u.2), if_neg w, nt_12]; exact H.2.2.2.2.2.1.2.1 j hj (Or.inr (h0_of H.1 hh))
          · rw [gi_si, if_neg (by omega), nt_13]
          · rw [gi_si, if_neg (by omega), nt_11]
        obtain ⟨g1, g2⟩ := st_ok R H (by omega) (onsh_lgl e (Or.inl ⟨rfl, rfl⟩)) e2 e3 f2 (fun j hj => stM_tr (nt_st hj) (stM_si (fun w => hj (w.symm.trans rfl))))
        have b' := vbd g1.1 g1.2.2.2.1
        rw [x_shelf (H_cx g1), jb1_e, x_bc (shf_lt H.1), jb1_e, m12_0 (H_cm g1), m_shelf (H_cm g1) (by omega), jb1_e, m_on (shf_lt H.1), jb1_e]
        exact ⟨_, _, _, rfl, rfl, g2⟩
    · rw [if_neg e, if_neg e]; exact ⟨_, Mx, Mm, rfl, rfl, R⟩
theorem t1 : (1 : Int32).toNatClampNeg = 1 := rfl
theorem t3 : (3 : Int32).toNatClampNeg = 3 := rfl
theorem t4 : (4 : Int32).toNatClampNeg = 4 := rfl
theorem dI_s (i : Nat) : dI (i + 1) = nI i := rfl
theorem m_openN (H : CM q c M) (hn : c 1 0 < 40) (hh : h < q 0 1) (hd : d ≤ q 0 0) : ∃ N, f_X6_openNow (nI h) (dI d) M = some N ∧ cM q (app c 1 h d) N ∧ ∀ j, j ≠ 4 → stM j M N := by
  have b := vbd H.1 H.2.2.1
  unfold f_X6_openNow
  have s1 : gi (nt M (c 1 0)) 12 1 = nI (vec q c (c 1 0) 1) := (nt_12 _).trans (m12_1 H)
  have s3 : ∀ v w, gi (si (si (nt M (c 1 0)) 12 1 v) 12 (5 + h) w) 12 3 = nI (vec q c (c 1 0) 3) := fun v w => by rw [gi_si, if_neg (by omega), gi_si, if_neg (by omega), nt_12]; exact m12_3 H
  have s4 : ∀ v w u, gi (si (si (si (nt M (c 1 0)) 12 1 v) 12 (5 + h) w) 12 3 u) 12 4 = nI (vec q c (c 1 0) 4) := fun v w u => by rw [gi_si, if_neg (by omega), gi_si, if_neg (by omega), gi_si, if_neg (by omega), nt_12]; exact m12_4 H
  have s5 : ∀ v w u, hM q (si (si (si (nt M (c 1 0)) 12 1 v) 12 (5 + h) w) 12 3 u) := fun v w u => hM_st (stM_tr (nt_st (by decide)) (stM_tr (stM_si (by decide)) (stM_tr (stM_si (show rgM 12 (5 + h) ≠ 3 from (by decide : (4 : Nat) ≠ 3))) (stM_si (by decide))))) H.2.1
  rw [m_note H hn, jb1_e]
  simp only [t1, t3, t4]
  rw [s1, jshl h (by omega), jor, jlet_e, show (5 : Int32) + nI h = nI (5 + h) from nI_add 5 h, jg_t (jin_nI (show 5 + h < 12 by omega) (by decide)), nI_clamp (show 5 + h < 2 ^ 31 by omega), jlet_e, jlet_e, s3, jlet_e, s4, nI_1]
  have fin : ∀ (v3 v4 : Nat), v3 = stp q (vec q c (c 1 0)) 1 h d 3 → v4 = stp q (vec q c (c 1 0)) 1 h d 4 → cM q (app c 1 h d) (si (si (si (si (nt M (c 1 0)) 12 1 (nI (vec q c (c 1 0) 1 ||| 2 ^ h))) 12 (5 + h) (dI d)) 12 3 (nI v3)) 12 4 (nI v4)) := by
    intro v3 v4 e3 e4
    refine cM_app H.2.2.2 (h0_of H.1 hh) ?_ (fun j hj => ?_) (fun z => ?_) (fun z => ?_)
    · rw [gi_si, if_neg (by omega), gi_si, if_neg (by omega), gi_si, if_neg (by omega), gi_si, if_neg (by omega), nt_15]
    · by_cases w4 : j = 4
      · subst w4; rw [gi_si, if_pos ⟨rfl, rfl⟩, ← e4]; rfl
      · rw [gi_si, if_neg (by omega)]
        by_cases w3 : j = 3
        · subst w3; rw [gi_si, if_pos ⟨rfl, rfl⟩, ← e3]; rfl
        · rw [gi_si, if_neg (by omega), stp1]
          by_cases w5 : j = 5 + h
          · subst w5
            rw [gi_si, if_pos ⟨rfl, rfl⟩, if_neg (by omega), if_neg (by omega), if_neg (by omega), if_pos rfl]
            exact (if_neg (by omega)).symm
          · rw [gi_si, if_neg (by omega)]
            by_cases w1 : j = 1
            · subst w1; rw [gi_si, if_pos ⟨rfl, rfl⟩, if_pos rfl]; rfl
            · rw [gi_si, if_neg (by omega), if_neg w1, if_neg w3, if_neg w4, if_neg w5, nt_12]; exact H.2.2.2.2.1 j hj (Or.inr (h0_of H.1 hh))
    · rw [gi_si, if_neg (by omega), gi_si, if_neg (by omega), gi_si, if_neg (by omega), gi_si, if_neg (by omega), nt_13]
    · rw [gi_si, if_neg (by omega), gi_si, if_neg (by omega), gi_si, if_neg (by omega), gi_si, if_neg (by omega), nt_11]
  have sta : ∀ (a e f g : Int32), ∀ j, j ≠ 4 → stM j M (si (si (si (si (nt M (c 1 0)) 12 1 a) 12 (5 + h) e) 12 3 f) 12 4 g) := fun a e f g j hj => stM_tr (nt_st hj) (stM_tr (stM_si (fun w => hj (w.symm.trans rfl))) (stM_tr (stM_si (fun w => hj (w.symm.trans rfl))) (stM_tr (stM_si (fun w => hj (w.symm.trans rfl))) (stM_si (fun w => hj (w.symm.trans rfl))))))
  rcases (show d = 0 ∨ ∃ i, d = i + 1 from by cases d with | zero => exact Or.inl rfl | succ i => exact Or.inr ⟨i, rfl⟩) with rfl | ⟨i, rfl⟩
  · have e9 : dI 0 = -9 := rfl
    rw [show (if (0 : Int32) ≤ dI 0 then ((1 : Int32) <<< (dI 0 &&& 31)) else 0) = nI 0 from rfl, jor, Nat.or_zero, if_pos (show dI 0 < 0 from by decide), jb1_e, jlet_e]
    exact ⟨_, rfl, fin _ _ rfl rfl, sta _ _ _ _⟩
  · have hi : i < q 0 0 := by omega
    rw [dI_s, if_pos (nI_pos' (by omega)), jshl i (by omega), jor, if_neg (nI_pos (by omega)), jg_t (jin_nI (show i < 6 by omega) (by decide)), nI_clamp (show i < 2 ^ 31 by omega), ((s5 _ _ _).2.2.1 i hi).1, show ∀ N, f_X6_isKind (nI (q 1 i)) 1 N = some (b2 (isk (q 1 i) 1)) from fun N => m_isKind (k := 1) (H.1.2.2.2.1 i hi).1 (by decide), jb1_e, b2_if]
    by_cases e : isk (q 1 i) 1 = true
    · rw [if_pos e, jb1_e, jlet_e]
      refine ⟨_, rfl, fin _ 0 rfl ?_, sta _ _ _ _⟩
      rw [stp1]; simp [e]
    · rw [if_neg e, jb1_e, jlet_e]
      refine ⟨_, rfl, fin _ _ rfl ?_, sta _ _ _ _⟩
      rw [stp1]; simp [e]
end JK
