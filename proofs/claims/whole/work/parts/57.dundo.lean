/-! open, undo, keep, on -/
def trn (c : Nat → Nat → Nat) (s : Nat) : Nat → Nat → Nat := fun a z => if a = 1 ∧ z = 0 then s else c a z
section JL
variable {q c : Nat → Nat → Nat} {M N Mx Mm Nx Nm : jM} {k h d : Nat}
theorem x_openN (hn : c 1 0 < 40) (H : CX q c M) (hh : h < q 0 1) (ho : (vec q c (c 1 0) 1).testBit h = false) (hd : d ≤ q 0 0) : ∃ N, f_X0_take 1 (nI h) (dI d) M = some N ∧ cX 39 q (app c 1 h d) N ∧ (∀ j, j ≠ 4 → stX j M N) ∧ tkA M N (c 1 0) 1 (nI h) (dI d) := by
  cases d with
  | zero => exact x_open0 hn H hh ho
  | succ i => exact x_open1 hn H hh (by omega)
theorem op_ok (R : Rl Q1 Mx Mm) (H : Q2 q c Mx Mm) (hn : c 1 0 < 40) (hs : (shf q c (vec q c (c 1 0)) (vec q c (c 1 0) 0)).testBit h = true) (hd : d ≤ q 0 0) : ∃ Nx Nm, f_X0_take 1 (nI h) (dI d) Mx = some Nx ∧ f_X6_openNow (nI h) (dI d) Mm = some Nm ∧ Q2 q (app c 1 h d) Nx Nm ∧ Rl Q1 Nx Nm := by
  have l := onsh_lgl (k := 1) (d := d) hs (Or.inr ⟨rfl, hd⟩)
  have hh : h < q 0 1 ∧ (vec q c (c 1 0) 1).testBit h = false := by
    rcases l with ⟨l, _⟩ | ⟨l1, l2, _⟩
    · exact absurd l (by decide)
    · exact ⟨l1, l2⟩
  obtain ⟨Nx, e1, e2, e3, _⟩ := x_openN hn (H_cx H) hh.1 hh.2 hd
  obtain ⟨Nm, f1, f2, f3⟩ := m_openN (H_cm H) hn hh.1 hd
  exact ⟨Nx, Nm, e1, f1, st_ok R H hn l e2 e3 f2 f3⟩
theorem s_open : kS_open (Rl Q1) := by
  intro a1 a2 Mx Mm R
  obtain ⟨q, c, H⟩ := R.2.2.2
  have b := vbd H.1 H.2.2.2.1
  unfold f_X5_open f_X6_open
  rcases jdeed q H.1 a1 1 (Or.inr rfl) with b | ⟨h, hh, rfl⟩
  · rw [x_hh_f H.2.1 b, m_hh_f H.1 H.2.2.1 b]
    exact ⟨-1, Mx, Mm, rfl, rfl, R⟩
  · rw [x_hh_t H.1 H.2.1 hh, jb1_e, if_neg j10, m_hh_t H.1 H.2.2.1 hh, jb1_e, if_neg j10]
    by_cases e9 : a2 = -9
    · subst e9
      rw [if_pos rfl, if_pos rfl, if_pos rfl, if_pos m9neg, x_where (H_cx H) hh, jb1_e, x_onsh (H_cx H) hh, m_onsh (H_cm H) hh, jb1_e, b2_if]
      by_cases e : (shf q c (vec q c (c 1 0)) (vec q c (c 1 0) 0)).testBit h = true
      · rw [if_pos e, if_pos e, x_full (H_cx H), jb1_e, b2_if, m_full (H_cm H)]
        by_cases f : 40 ≤ c 1 0
        · rw [if_pos (by simp [f]), if_pos (by simp [f])]; exact ⟨_, Mx, Mm, rfl, rfl, R⟩
        · rw [if_neg (by simp [f]), if_neg (by simp [f])]
          obtain ⟨Nx, Nm, e1, e2, g1, g2⟩ := op_ok (d := 0) R H (by omega) e (Nat.zero_le _)
          have e1 : f_X0_take 1 (nI h) (-9) Mx = some Nx := e1
          have e2 : f_X6_openNow (nI h) (-9) Mm = some Nm := e2
          rw [e1, e2, jb1_e, jb1_e, x10 (H_cx g1), m12_3 (H_cm g1)]
          exact ⟨_, _, _, rfl, rfl, g2⟩
      · rw [if_neg e, if_neg e]; exact ⟨_, Mx, Mm, rfl, rfl, R⟩
    · simp only [if_neg e9]
      rcases jdeed q H.1 a2 0 (Or.inl rfl) with b | ⟨i, hi, rfl⟩
      · rw [x_hd_f H.2.1 b, m_hd_f H.1 H.2.2.1 b]
        exact ⟨-1, Mx, Mm, rfl, rfl, R⟩
      · have hl := hin_le (q := q) i h (vec q c (c 1 0) 3) (vec q c (c 1 0) 4)
        rw [x_hd_t H.1 H.2.1 hi, jb1_e, if_neg j10, m_hd_t H.1 H.2.2.1 hi, jb1_e, if_neg j10, x_where (H_cx H) hh, jb1_e, x_onsh (H_cx H) hh, m_onsh (H_cm H) hh, jb1_e, b2_if, if_neg (nI_pos (by omega)), x_hinC (H_cx H) hi hh, jb1_e, jzn (by omega), m_canC (H_cm H) hi hh, jb1_e, b2_if]
        by_cases e : (shf q c (vec q c (c 1 0)) (vec q c (c 1 0) 0)).testBit h = true
        · rw [if_pos e, if_pos e]
          by_cases e0 : decide (hin q i h (vec q c (c 1 0) 3) (vec q c (c 1 0) 4) = 0) = true
          · rw [if_pos e0, if_pos e0, x_full (H_cx H), jb1_e, b2_if, m_full (H_cm H)]
            by_cases f : 40 ≤ c 1 0
            · rw [if_pos (by simp [f]), if_pos (by simp [f])]; exact ⟨_, Mx, Mm, rfl, rfl, R⟩
            · rw [if_neg (by simp [f]), if_neg (by simp [f])]
              obtain ⟨Nx, Nm, e1, e2, g1, g2⟩ := op_ok (d := i + 1) R H (by omega) e (by omega)
              rw [dI_s] at e1 e2
              rw [e1, e2, jb1_e, jb1_e, x10 (H_cx g1), m12_3 (H_cm g1)]
              exact ⟨_, _, _, rfl, rfl, g2⟩
          · rw [if_neg e0, if_neg e0]; exact ⟨_, Mx, Mm, rfl, rfl, R⟩
        · rw [if_neg e, if_neg e]; exact ⟨_, Mx, Mm, rfl, rfl, R⟩
theorem trn_v (s z : Nat) : vec q (trn c s) z = vec q c z := vec_cg z (fun k _ => ⟨rfl, rfl, rfl⟩)
theorem trn_ok (hc : okC q c) {s : Nat} (hs : s ≤ c 1 0) : okC q (trn c s) := ⟨Nat.le_trans hs hc.1, hc.2.1, fun z hz => by
  have hz : z < s := hz
  rw [trn_v]; exact hc.2.2 z (by omega)⟩
theorem trn_app (s : Nat) : app (trn c s) (c 2 s) (c 3 s) (c 4 s) = trn c (s + 1) := by
  funext a z
  show (if a = 1 ∧ z = 0 then s + 1 else if a = 2 ∧ z = s then c 2 s else if a = 3 ∧ z = s then c 3 s else if a = 4 ∧ z = s then c 4 s else if a = 1 ∧ z = 0 then s else c a z) = if a = 1 ∧ z = 0 then s + 1 else c a z
  by_cases e : a = 1 ∧ z = 0
  · rw [if_pos e, if_pos e]
  · rw [if_neg e, if_neg e, if_neg e]
    by_cases e2 : a = 2 ∧ z = s
    · rw [if_pos e2, e2.1, e2.2]
    · rw [if_neg e2]
      by_cases e3 : a = 3 ∧ z = s
      · rw [if_pos e3, e3.1, e3.2]
      · rw [if_neg e3]
        by_cases e4 : a = 4 ∧ z = s
        · rw [if_pos e4, e4.1, e4.2]
        · rw [if_neg e4]
theorem trn_self : trn c (c 1 0) = c := by
  funext a z
  show (if a = 1 ∧ z = 0 then c 1 0 else c a z) = c a z
  by_cases e : a = 1 ∧ z = 0
  · rw [if_pos e, e.1, e.2]
  · rw [if_neg e]
/-- the class takes step s once more -/
theorem x_again (hq : okP q) (hx : hX q M) (hc : okC q c) {s : Nat} (hs : s < c 1 0) (hcx : cX 39 q (trn c s) M) (hA : ∀ z, z < c 1 0 → gi M 41 z = nI (c 2 z) ∧ gi M 42 z = (if c 2 z = 0 then -9 else nI (c 3 z)) ∧ gi M 43 z = dI (c 4 z)) : ∃ N, f_X0_take (gi M 41 s) (gi M 42 s) (gi M 43 s) M = some N ∧ cX 39 q (trn c (s + 1)) N ∧ (∀ j, j ≠ 4 → stX j M N) ∧ ∀ z, z < c 1 0 → gi N 41 z = nI (c 2 z) ∧ gi N 42 z = (if c 2 z = 0 then -9 else nI (c 3 z)) ∧ gi N 43 z = dI (c 4 z) := by
  have H : CX q (trn c s) M := ⟨hq, hx, trn_ok hc (by omega), hcx⟩
  have hn : trn c s 1 0 < 40 := by
    have := hc.1
    show s < 40; omega
  have l := hc.2.2 s hs
  obtain ⟨a1, a2, a3⟩ := hA s hs
  have fin : ∀ N, cX 39 q (app (trn c s) (c 2 s) (c 3 s) (c 4 s)) N → (∀ j, j ≠ 4 → stX j M N) → tkA M N s (gi M 41 s) (gi M 42 s) (gi M 43 s) → cX 39 q (trn c (s + 1)) N ∧ (∀ j, j ≠ 4 → stX j M N) ∧ ∀ z, z < c 1 0 → gi N 41 z = nI (c 2 z) ∧ gi N 42 z = (if c 2 z = 0 then -9 else nI (c 3 z)) ∧ gi N 43 z = dI (c 4 z) := by
    intro N n1 n2 n3
    rw [trn_app] at n1
    refine ⟨n1, n2, fun z hz => ?_⟩
    obtain ⟨b1, b2, b3⟩ := n3 z
    rw [b1, b2, b3]
    by_cases e : z = s
    · subst e; rw [if_pos rfl, if_pos rfl, if_pos rfl]; exact hA z hs
    · rw [if_neg e, if_neg e, if_neg e]; exact hA z hz
  have l' : lgl q c (vec q (trn c s) s) (c 2 s) (c 3 s) (c 4 s) := by rw [trn_v]; exact l
  rcases l with ⟨e2, e3, e4⟩ | ⟨l1, l2, l3, l4, l5⟩
  · obtain ⟨N, n1, n2, n3, _, n4⟩ := x_day hn H
    have b1 : gi M 41 s = 0 := by rw [a1, e2]; rfl
    have b2 : gi M 42 s = -9 := by rw [a2, if_pos e2]
    have b3 : gi M 43 s = -9 := by rw [a3, e4]; rfl
    refine ⟨N, by rw [b1, b2, b3]; exact n1, fin N (by rw [e2, e3, e4]; exact n2) n3 (by rw [b1, b2, b3]; exact n4)⟩
  · have ho : (vec q (trn c s) (trn c s 1 0) 1).testBit (c 3 s) = false := by
      show (vec q (trn c s) s 1).testBit (c 3 s) = false
      rw [trn_v]; exact l2
    rcases l5 with ⟨e2, e4⟩ | ⟨e2, l5⟩
    · obtain ⟨N, n1, n2, n3, n4⟩ := x_send hn H l1
      have b1 : gi M 41 s = 2 := by rw [a1, e2]; rfl
      have b2 : gi M 42 s = nI (c 3 s) := by rw [a2, if_neg (by omega)]
      have b3 : gi M 43 s = -9 := by rw [a3, e4]; rfl
      refine ⟨N, by rw [b1, b2, b3]; exact n1, fin N (by rw [e2, e4]; exact n2) n3 (by rw [b1, b2, b3]; exact n4)⟩
    · obtain ⟨N, n1, n2, n3, n4⟩ := x_openN hn H l1 ho l5
      have b1 : gi M 41 s = 1 := by rw [a1, e2]; rfl
      have b2 : gi M 42 s = nI (c 3 s) := by rw [a2, if_neg (by omega)]
      refine ⟨N, by rw [b1, b2, a3]; exact n1, fin N (by rw [e2]; exact n2) n3 (by rw [b1, b2, a3]; exact n4)⟩
theorem x_rew (M : jM) : f_X0_rewind M = some (si (si (si (si (si (si (jff M 44 0 7 (-9)) 39 6 0) 39 7 0) 39 8 0) 39 9 0) 39 10 0) 39 11 0) := by
  unfold f_X0_rewind
  rw [fill_ok (by decide)]; rfl
theorem rew_ok (H : CX q c M) : ∃ N, f_X0_rewind M = some N ∧ cX 39 q (trn c 0) N ∧ (∀ j, j ≠ 4 → stX j M N) ∧ ∀ z, gi N 41 z = gi M 41 z ∧ gi N 42 z = gi M 42 z ∧ gi N 43 z = gi M 43 z := by
  refine ⟨_, x_rew M, ⟨?_, fun j hj => ?_, fun z hz => ?_, fun s hs => ?_, fun z hz => ?_⟩, fun j hj => ?_, fun z => ?_⟩
  · simp [gi_si]; rfl
  · rcases (show j = 0 ∨ j = 1 ∨ j = 2 ∨ j = 3 ∨ j = 4 by omega) with rfl | rfl | rfl | rfl | rfl <;> (simp [gi_si]; rfl)
  · simp [gi_si, gi_jff]; exact H.2.2.2.2.2.1 z hz
  · exact absurd hs (Nat.not_lt_zero _)
  · simp [gi_si, gi_jff, hz]; rfl
  · have w : ∀ o, rgX o = 4 → rgX o ≠ j := fun o e w => hj (w.symm.trans e)
    exact stX_tr (stX_jff (w 44 rfl)) (stX_tr (stX_si (w 39 rfl)) (stX_tr (stX_si (w 39 rfl)) (stX_tr (stX_si (w 39 rfl)) (stX_tr (stX_si (w 39 rfl)) (stX_tr (stX_si (w 39 rfl)) (stX_si (w 39 rfl)))))))
  · exact ⟨by simp [gi_si, gi_jff], by simp [gi_si, gi_jff], by simp [gi_si, gi_jff]⟩
theorem x_backL (hq : okP q) (hc : okC q c) {n : Nat} (hn : n ≤ c 1 0) : ∀ (r s m : Nat) (M : jM), s + r = n → r < m → hX q M → cX 39 q (trn c s) M → (∀ z, z < c 1 0 → gi M 41 z = nI (c 2 z) ∧ gi M 42 z = (if c 2 z = 0 then -9 else nI (c 3 z)) ∧ gi M 43 z = dI (c 4 z)) → ∃ N, f_X0_goBackTo_L13 m (nI n) (nI s) M = some (nI n, N) ∧ cX 39 q (trn c n) N ∧ ∀ j, j ≠ 4 → stX j M N
  | 0, s, m, M, hs, hm, hx, hcx, hA => by
    obtain ⟨m', rfl⟩ : ∃ m', m = m' + 1 := ⟨m - 1, by omega⟩
    have e : s = n := by omega
    subst e
    have := hc.1
    refine ⟨M, ?_, hcx, fun j _ => stX_rf⟩
    show f_X0_goBackTo_L13_b (f_X0_goBackTo_L13 m') _ _ M = _
    unfold f_X0_goBackTo_L13_b
    rw [if_pos (nI_le (Nat.le_refl _) (by omega))]
  | r + 1, s, m, M, hs, hm, hx, hcx, hA => by
    obtain ⟨m', rfl⟩ : ∃ m', m = m' + 1 := ⟨m - 1, by omega⟩
    have h40 := hc.1
    obtain ⟨N, n1, n2, n3, n4⟩ := x_again hq hx hc (s := s) (by omega) hcx hA
    obtain ⟨K, k1, k2, k3⟩ := x_backL hq hc hn r (s + 1) m' N (by omega) (by omega) (hX_st (n3 3 (by decide)) hx) n2 n4
    refine ⟨K, ?_, k2, fun j hj => stX_tr (n3 j hj) (k3 j hj)⟩
    show f_X0_goBackTo_L13_b (f_X0_goBackTo_L13 m') _ _ M = _
    unfold f_X0_goBackTo_L13_b
    rw [if_neg (nI_ge (show s < n by omega) (by omega)), if_neg (show ¬ (40 : Int32) ≤ nI s from nI_ge (b := 40) (by omega) (by decide)), jg_t (jin_nI (show s < 40 by omega) (by decide)), jg_t (jin_nI (show s < 40 by omega) (by decide)), jg_t (jin_nI (show s < 40 by omega) (by decide)), nI_clamp (show s < 2 ^ 31 by omega), n1, jb1_e, jlet_e, nI_1, k1]
theorem m_undoL {n : Nat} {w : Int32} (hn : n < 40) (hw : ¬ w ≤ 0) : f_X6_undo_L25 jfu (nI n) w 0 M = some (nI 12, jcp M (gi M 13) (12 * n) 12 0 12) := by
  have e := jloop0 (L := fun m (s : Int32 × jM) => f_X6_undo_L25 m (nI n) w s.1 s.2) (S := fun z => (nI z, jcp M (gi M 13) (12 * n) 12 0 z)) (r := (nI 12, jcp M (gi M 13) (12 * n) 12 0 12)) (n := 12) (by decide) ?_ (fun m => rfl)
  · rw [jcp_0] at e; exact e
  · intro m z hz
    show f_X6_undo_L25_b (f_X6_undo_L25 m) (nI n) w (nI z) _ = f_X6_undo_L25 m (nI n) w (nI (z + 1)) _
    unfold f_X6_undo_L25_b
    have e2 : gi (jcp M (gi M 13) (12 * n) 12 0 z) 13 (12 * n + z) = gi M 13 (12 * n + z) := by rw [gi_jcp, if_neg (by omega)]
    have e3 := jcp_step M (gi M 13) (12 * n) 12 0 z
    rw [Nat.zero_add] at e3
    dsimp only
    rw [if_neg (show ¬ (12 : Int32) ≤ nI z from nI_ge (b := 12) hz (by decide)), if_neg hw, e12, jg_t (jin_nI (show 12 * n + z < 480 by omega) (by decide)), jg_t (jin_nI hz (by decide)), nI_clamp (show z < 2 ^ 31 by omega), nI_clamp (show 12 * n + z < 2 ^ 31 by omega), e2, e3, jlet_e, jlet_e, nI_1]
theorem m_undoL0 {n : Int32} {w : Int32} (hw : w ≤ 0) : f_X6_undo_L25 jfu n w 0 M = some (0, M) := by
  show f_X6_undo_L25_b (f_X6_undo_L25 29999) n w 0 M = _
  unfold f_X6_undo_L25_b
  rw [if_neg (by decide), if_pos hw]
theorem s_undo : kS_undo (Rl Q1) := by
  intro a1 Mx Mm R
  obtain ⟨q, c, H⟩ := R.2.2.2
  have b := vbd H.1 H.2.2.2.1
  unfold f_X5_undo f_X6_undo
  rw [x6 (H_cx H), m15 (H_cm H)]
  rcases jcase a1 (c 1 0 + 1) (by omega) with w | ⟨n, hn, rfl⟩
  · rw [m_in0_f (hi := (nI (c 1 0)).toInt64) (n := c 1 0) rfl w (by omega), jb1_e, if_pos j00]
    by_cases w1 : a1 < 0
    · rw [if_pos w1]; exact ⟨_, Mx, Mm, rfl, rfl, R⟩
    · have w3 : ¬ a1 ≤ nI (c 1 0) := by
        have w2 := w.resolve_left w1
        rw [Int32.le_iff_toInt_le, nI_toInt (by omega)] at w2 ⊢
        omega
      rw [if_neg w1, if_neg w3]; exact ⟨_, Mx, Mm, rfl, rfl, R⟩
  · rw [m_in0_t (hi := (nI (c 1 0)).toInt64) (j := n) (n := c 1 0) rfl (by omega) (by omega), jb1_e, if_neg j10, if_neg (nI_pos (by omega)), if_pos (nI_le (show n ≤ c 1 0 by omega) (by omega)), jlet_e]
    unfold f_X0_goBackTo
    obtain ⟨N0, r1, r2, r3, r4⟩ := rew_ok (H_cx H)
    obtain ⟨N, n1, n2, n3⟩ := x_backL H.1 H.2.2.2.1 (show n ≤ c 1 0 by omega) n 0 jfu N0 (by omega) (by unfold jfu; omega) (hX_st (r3 3 (by decide)) H.2.1) r2 (fun z hz => by rw [(r4 z).1, (r4 z).2.1, (r4 z).2.2]; exact H.2.2.2.2.1.2.2.2.1 z hz)
    have n1 : f_X0_goBackTo_L13 jfu (nI n) 0 N0 = _ := n1
    rw [x6 (H_cx H), jlet_e, r1, jb1_e, n1, jb2_e, jb2_e]
    have sx : ∀ j, j ≠ 4 → stX j Mx N := fun j hj => stX_tr (r3 j hj) (n3 j hj)
    have hN : ∀ Nm, cM q (trn c n) Nm → (∀ j, j ≠ 4 → stM j Mm Nm) → Rl Q1 N Nm := fun Nm m1 sm => rl_cour R (fun j hj => sx j (by omega)) (fun j hj => sm j (by omega)) ⟨q, trn c n, H.1, hX_st (sx 3 (by decide)) H.2.1, hM_st (sm 3 (by decide)) H.2.2.1, trn_ok H.2.2.2.1 (by omega), n2, m1, fun z hz => kp_st (sx 5 (by decide)) (sm 5 (by decide)) hz (H.2.2.2.2.2.2 z hz)⟩
    have v4 : ∀ j, rgM 12 j = 4 := fun _ => rfl
    by_cases e : n = c 1 0
    · subst e
      rw [m_undoL0 (by rw [pk_sub (Nat.le_refl _), Nat.sub_self]; decide), jb2_e, jlet_e]
      refine ⟨_, _, _, rfl, rfl, hN _ ?_ (fun j hj => stM_si (fun w => hj (w.symm.trans rfl)))⟩
      rw [trn_self]
      obtain ⟨h1, h2, h3, h4⟩ := H.2.2.2.2.2.1
      exact ⟨by rw [gi_si, if_pos ⟨rfl, rfl⟩], fun k hk => by rw [gi_si, if_neg (by omega)]; exact h2 k hk, fun s hs k hk => by rw [gi_si, if_neg (by omega)]; exact h3 s hs k hk, fun k hk => by rw [gi_si, if_neg (by omega)]; exact h4 k hk⟩
    · rw [m_undoL (by omega) (by rw [pk_sub (show n ≤ c 1 0 by omega)]; exact nI_nle (by omega) (by omega)), jb2_e, jlet_e]
      refine ⟨_, _, _, rfl, rfl, hN _ ?_ (fun j hj => stM_tr (stM_jcp (fun _ w => hj (w.symm.trans rfl))) (stM_si (fun w => hj (w.symm.trans rfl))))⟩
      obtain ⟨h1, h2, h3, h4⟩ := H.2.2.2.2.2.1
      refine ⟨by rw [gi_si, if_pos ⟨rfl, rfl⟩]; rfl, fun k hk => ?_, fun s hs k hk => ?_, fun k hk => ?_⟩
      · intro hv
        rw [gi_si, if_neg (by omega), gi_jcp, if_pos ⟨rfl, by omega, by omega⟩, Nat.sub_zero]
        show gi Mm 13 (12 * n + k) = enc k (vec q (trn c n) n k)
        rw [trn_v]; exact h3 n (by omega) k hk
      · have hs : s < n := hs
        rw [gi_si, if_neg (by omega), gi_jcp, if_neg (by omega), trn_v]; exact h3 s (by omega) k hk
      · rw [gi_si, if_neg (by omega), gi_jcp, if_neg (by omega)]; exact h4 k hk
end JL
