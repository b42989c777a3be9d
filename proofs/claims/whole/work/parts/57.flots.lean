/-! lots -/
section JN
variable {q c : Nat → Nat → Nat} {M N Mx Mm Nx Nm : jM}
theorem m_oneL (N : jM) : ∀ (m : Nat) (a b e : Int32), f_X6_oneOf_L4 m a b e M = f_X6_oneOf_L4 m a b e N
  | 0, _, _, _ => rfl
  | m + 1, a, b, e => by
    show f_X6_oneOf_L4_b (f_X6_oneOf_L4 m) a b e M = f_X6_oneOf_L4_b (f_X6_oneOf_L4 m) a b e N
    unfold f_X6_oneOf_L4_b
    simp only [show ∀ x y, f_X6_has x y M = f_X6_has x y N from fun _ _ => rfl, jlet_e, m_oneL N m]
theorem m_one {n k : Nat} (h : n < 128) (hk : k < pc n) : f_X6_oneOf (nI n) (nI k) M = some (nI (nth n k)) := by
  have := pc_le n
  rw [← m_one0 n h k (by omega) hk]
  unfold f_X6_oneOf
  rw [m_oneL M00]
theorem pc_or1 : ∀ d, d < 64 → ∀ i, i < 6 → d.testBit i = false → pc (d ||| 2 ^ i) = pc d + 1 := by decide +kernel
theorem pc_z : ∀ n, n < 128 → (pc n = 0 ↔ n = 0) := by decide +kernel
theorem cns_lt (hq : okP q) (h : Nat) : cns q c h < 64 := Nat.lt_of_lt_of_le (bts_lt _ _) (show 2 ^ q 0 0 ≤ 2 ^ 6 from Nat.pow_le_pow_right (by decide) hq.1)
theorem hin0_bit {i h d s : Nat} (e : hin q i h d s = 0) : d.testBit i = false := by
  unfold hin at e
  cases w : d.testBit i with
  | false => rfl
  | true => rw [w, if_pos rfl] at e; exact absurd e (by decide)
/-- which deed a lot tells: 0 none -/
def ltd (S j : Nat) : Nat := if j < pc S then nth S j + 1 else 0
theorem ltd_x {S j : Nat} (h : S < 128) (hj : j < 8) : f_X5_nthOf (nI S) (nI j) M = some (dI (ltd S j)) := by
  rw [x_nth h hj]
  unfold ltd
  by_cases e : j < pc S
  · rw [if_pos e, if_pos e]; rfl
  · rw [if_neg e, if_neg e]; rfl
theorem ltd_m {S j : Nat} (h : S < 128) (hj : j ≤ pc S) : (if nI j = nI (pc S) then some (-9 : Int32) else jb1 (f_X6_oneOf (nI S) (nI j) M) fun r => some r) = some (dI (ltd S j)) := by
  have := pc_le S
  unfold ltd
  by_cases e : j < pc S
  · rw [if_neg (fun w => by have := (nI_eq (by omega) (by omega)).mp w; omega), m_one h e, jb1_e, if_pos e]; rfl
  · have e2 : j = pc S := by omega
    rw [if_neg e, e2, if_pos rfl]; rfl
theorem ltd_ok (hq : okP q) (hc : okC q c) {h j : Nat} : ltd (cns q c h) j ≤ q 0 0 ∧ pc (stp q (vec q c (c 1 0)) 1 h (ltd (cns q c h) j) 3) = pc (vec q c (c 1 0) 3) + (if 0 ≤ dI (ltd (cns q c h) j) then 1 else 0) := by
  have b := vbd hq hc
  unfold ltd
  by_cases e : j < pc (cns q c h)
  · rw [if_pos e]
    have p7 := pc_le (cns q c h)
    have sp := nth_spec (cns q c h) (by have := cns_lt (c := c) hq h; omega) j (by omega) e
    have sb := sp.2
    generalize hN : nth (cns q c h) j = N at *
    unfold cns at sb
    rw [bts_bit, Bool.and_eq_true, decide_eq_true_eq, decide_eq_true_eq] at sb
    have e0 : (0 : Int32) ≤ dI (N + 1) := nI_pos' (by omega)
    refine ⟨sb.1, ?_⟩
    rw [if_pos e0]
    show pc (if N + 1 = 0 then vec q c (c 1 0) 3 else vec q c (c 1 0) 3 ||| 2 ^ (N + 1 - 1)) = _
    rw [if_neg (by omega), Nat.add_sub_cancel, pc_or1 _ b.2.2.2.1 _ (Nat.lt_of_lt_of_le sb.1 hq.1) (hin0_bit sb.2)]
  · rw [if_neg e]
    refine ⟨Nat.zero_le _, ?_⟩
    rw [if_neg (by decide)]
    rfl
theorem lt_step {l did : Nat} (R : Rl Q1 Mx Mm) (H : Q2 q c Mx Mm) (hn : c 1 0 < 40) (hd : q 0 0 ≠ 0) (hl : l < 2 ^ 31) : ∃ Nx Nm c' did', f_X5_liveByLot (nI l) Mx = some Nx ∧ (jb1 (f_X6_shelfOn (gi Mm 12 (0 : Int32).toNatClampNeg) Mm) fun r4 => (if r4 = 0 then (jb2 (f_X6_day Mm) fun r75 M76 => (some (nI did, M76))) else (jb1 (f_X6_ones r4 Mm) fun r45 => (jg (decide (¬ r45.toInt64 = 0)) (jb1 (f_X6_oneOf r4 (lN l - lN l / r45.toInt64 * r45.toInt64).toInt32 Mm) fun r48 => (jb1 (f_X6_can r48 Mm) fun r50 => (jb1 (f_X6_ones r50 Mm) fun r52 => (jg (decide (¬ (r52 + (1 : Int32)).toInt64 = 0)) (jlet ((lN l / (64 : Int64)) - (lN l / (64 : Int64)) / (r52 + (1 : Int32)).toInt64 * (r52 + (1 : Int32)).toInt64).toInt32 fun v55 => (jb1 (f_X6_ones r50 Mm) fun r56 => (jb1 (if v55 = r56 then (some (-9 : Int32)) else (jb1 (f_X6_oneOf r50 v55 Mm) fun r65 => (some r65))) fun v61 => (jb1 (f_X6_openNow r48 v61 Mm) fun M67 => (jlet (if 0 ≤ v61 then (1 : Int32) else (0 : Int32)) fun v70 => (jlet (nI did + v70) fun v74 => (some (v74, M67)))))))))))))))) = some (nI (did + did'), Nm) ∧ Q2 q c' Nx Nm ∧ Rl Q1 Nx Nm ∧ pc (vec q c' (c' 1 0) 3) = pc (vec q c (c 1 0) 3) + did' := by
  have b := vbd H.1 H.2.2.2.1
  have hs := shf_lt (c := c) (v := vec q c (c 1 0)) (d := vec q c (c 1 0) 0) H.1
  have p7 := pc_le (shf q c (vec q c (c 1 0)) (vec q c (c 1 0) 0))
  unfold f_X5_liveByLot
  rw [x_shelf (H_cx H), jb1_e, m12_0 (H_cm H), m_shelf (H_cm H) (by omega), jb1_e, x_bc hs, jb1_e]
  generalize hS : shf q c (vec q c (c 1 0)) (vec q c (c 1 0) 0) = S at *
  by_cases e : S = 0
  · rw [if_pos (by rw [(pc_z S hs).mpr e]; rfl), if_pos (by rw [e]; rfl)]
    obtain ⟨Nx, e1, e2, e3, e4, _⟩ := x_day (by omega) (H_cx H)
    obtain ⟨Nm, f1, f2, f3⟩ := m_dayN (H_cm H) hd (by omega)
    obtain ⟨g1, g2⟩ := st_ok R H (by omega) (Or.inl ⟨rfl, rfl, rfl⟩) e2 e3 f2 f3
    refine ⟨Nx, Nm, app c 0 0 0, 0, by rw [e1]; rfl, ?_, g1, g2, ?_⟩
    · unfold f_X6_day
      rw [H.2.2.1.1, jd0 H.1, if_neg hd, m_full (H_cm H), if_neg (by simp; omega), f1]
      rfl
    · rw [app_1, app_vn]; rfl
  · have e0 : 0 < pc S := by
      rcases Nat.eq_zero_or_pos (pc S) with w | w
      · exact absurd ((pc_z S hs).mp w) e
      · exact w
    have k1 : l % pc S < pc S := Nat.mod_lt _ e0
    have sp := nth_spec S hs (l % pc S) (by omega) k1
    have hh : nth S (l % pc S) < q 0 1 := by
      have w := sp.2
      rw [← hS, shf_bit, Bool.and_eq_true, decide_eq_true_eq] at w
      rw [← hS]; exact w.1
    have hc6 := cns_lt (c := c) H.1 (nth S (l % pc S))
    have p8 := pc_le (cns q c (nth S (l % pc S)))
    have k2 : l / 64 % (pc (cns q c (nth S (l % pc S))) + 1) < pc (cns q c (nth S (l % pc S))) + 1 := Nat.mod_lt _ (by omega)
    rw [if_neg (nI_ne0 e0 (by omega)), if_neg (nI_ne0 (by omega) (by omega)), jg_t (decide_eq_true (nI_ne0 e0 (by omega))), pk_rem hl e0 (by omega), x_nth hs (by omega), if_pos k1, jb1_e, x_canB (H_cx H) hh, jb1_e, x_bc (by omega), jb1_e, jlet_e, nI_1, jg_t (decide_eq_true (nI_ne0 (by omega) (by omega))), show (64 : Int32) = nI 64 from rfl, pk_div hl (by decide) (by decide), pk_rem (by have := Nat.div_le_self l 64; omega) (by omega) (by omega), ltd_x (by omega) (by omega), jb1_e]
    rw [m_on hs, jb1_e, nI_l (show pc S < 2 ^ 31 by omega), jg_t (decide_eq_true (show ¬ lN (pc S) = 0 from fun w => by have := (pk_lEQ (a := pc S) (b := 0) (by omega) (by decide)).mp w; omega)), pk_lRem (by omega) e0 (by omega), lN_i, m_one hs k1, jb1_e, m_canB (H_cm H) hh, jb1_e, m_on (by omega), jb1_e, nI_1, nI_l (show pc (cns q c (nth S (l % pc S))) + 1 < 2 ^ 31 by omega), jg_t (decide_eq_true (show ¬ lN (pc (cns q c (nth S (l % pc S))) + 1) = 0 from fun w => by have := (pk_lEQ (a := pc (cns q c (nth S (l % pc S))) + 1) (b := 0) (by omega) (by decide)).mp w; omega)), show (64 : Int64) = lN 64 from rfl, pk_lDiv (by omega) (by decide) (by decide), pk_lRem (by have := Nat.div_le_self l 64; omega) (by omega) (by omega), lN_i, jlet_e, jb1_e, ltd_m (by omega) (by omega), jb1_e]
    obtain ⟨t1, t2⟩ := ltd_ok H.1 H.2.2.2.1 (h := nth S (l % pc S)) (j := l / 64 % (pc (cns q c (nth S (l % pc S))) + 1))
    generalize ltd (cns q c (nth S (l % pc S))) (l / 64 % (pc (cns q c (nth S (l % pc S))) + 1)) = d at *
    obtain ⟨Nx, Nm, e1, e2, g1, g2⟩ := op_ok (d := d) R H hn (by rw [hS]; exact sp.2) t1
    refine ⟨Nx, Nm, app c 1 (nth S (l % pc S)) d, if 0 ≤ dI d then 1 else 0, by rw [e1]; rfl, ?_, g1, g2, ?_⟩
    · rw [e2, jb1_e, jlet_e, jlet_e]
      by_cases w : 0 ≤ dI d
      · rw [if_pos w, if_pos w, nI_1]
      · rw [if_neg w, if_neg w, Int32.add_zero, Nat.add_zero]
    · rw [app_1, app_vn]
      exact t2
theorem lt_loop {n b : Nat} (hn : n ≤ 20) (hd : q 0 0 ≠ 0) : ∀ (r k m l did : Nat) (Mx Mm : jM) (c : Nat → Nat → Nat), k + r = n → r < m → l < 2 ^ 31 → Rl Q1 Mx Mm → Q2 q c Mx Mm → b + did = pc (vec q c (c 1 0) 3) → ∃ l' k' Nx Nm c' did', f_X5_lots_L56 m (nI n) (lN l) (nI k) Mx = some (l', k', Nx) ∧ f_X6_lots_L45 m (nI n) (lN l) (nI did) (nI k) Mm = some (l', nI did', k', Nm) ∧ Rl Q1 Nx Nm ∧ Q2 q c' Nx Nm ∧ b + did' = pc (vec q c' (c' 1 0) 3)
  | 0, k, m, l, did, Mx, Mm, c, hk, hm, hl, R, H, hb => by
    obtain ⟨m', rfl⟩ : ∃ m', m = m' + 1 := ⟨m - 1, by omega⟩
    refine ⟨lN l, nI k, Mx, Mm, c, did, ?_, ?_, R, H, hb⟩
    · show f_X5_lots_L56_b (f_X5_lots_L56 m') _ _ _ Mx = _
      unfold f_X5_lots_L56_b
      rw [if_pos (nI_le (by omega) (by omega))]
    · show f_X6_lots_L45_b (f_X6_lots_L45 m') _ _ _ _ Mm = _
      unfold f_X6_lots_L45_b
      rw [if_pos (nI_le (by omega) (by omega))]
  | r + 1, k, m, l, did, Mx, Mm, c, hk, hm, hl, R, H, hb => by
    obtain ⟨m', rfl⟩ : ∃ m', m = m' + 1 := ⟨m - 1, by omega⟩
    have b' := vbd H.1 H.2.2.2.1
    by_cases f : 40 ≤ c 1 0
    · refine ⟨lN l, nI k, Mx, Mm, c, did, ?_, ?_, R, H, hb⟩
      · show f_X5_lots_L56_b (f_X5_lots_L56 m') _ _ _ Mx = _
        unfold f_X5_lots_L56_b
        rw [if_neg (nI_ge (by omega) (by omega)), x_full (H_cx H), jb1_e, b2_if, if_pos (by simp [f])]
      · show f_X6_lots_L45_b (f_X6_lots_L45 m') _ _ _ _ Mm = _
        unfold f_X6_lots_L45_b
        rw [if_neg (nI_ge (by omega) (by omega)), m15 (H_cm H), if_pos (show (40 : Int32) ≤ nI (c 1 0) from nI_le (a := 40) f (by omega))]
    · have hl2 : l * 48271 % 2147483647 < 2 ^ 31 := Nat.lt_trans (Nat.mod_lt _ (by decide)) (by decide)
      obtain ⟨Nx, Nm, c1, d1, e1, e2, e3, e4, e5⟩ := lt_step (did := did) R H (by omega) hd hl2
      obtain ⟨l', k', Kx, Km, c', did', g1, g2, g3, g4, g5⟩ := lt_loop (b := b) hn hd r (k + 1) m' (l * 48271 % 2147483647) (did + d1) Nx Nm c1 (by omega) (by omega) hl2 e4 e3 (by omega)
      have ev : lN l * (48271 : Int64) - lN l * (48271 : Int64) / (2147483647 : Int64) * (2147483647 : Int64) = lN (l * 48271 % 2147483647) := by
        rw [show (48271 : Int64) = lN 48271 from rfl, show (2147483647 : Int64) = lN 2147483647 from rfl, lN_mul, pk_lRem (by omega) (by decide) (by decide)]
      refine ⟨l', k', Kx, Km, c', did', ?_, ?_, g3, g4, g5⟩
      · show f_X5_lots_L56_b (f_X5_lots_L56 m') _ _ _ Mx = _
        unfold f_X5_lots_L56_b
        rw [if_neg (nI_ge (by omega) (by omega)), x_full (H_cx H), jb1_e, b2_if, if_neg (by simp [f]), ev, jlet_e, lN_i, e1, jb1_e, jlet_e, nI_1, g1]
      · show f_X6_lots_L45_b (f_X6_lots_L45 m') _ _ _ _ Mm = _
        unfold f_X6_lots_L45_b
        rw [if_neg (nI_ge (by omega) (by omega)), m15 (H_cm H), if_neg (show ¬ (40 : Int32) ≤ nI (c 1 0) from nI_ge (b := 40) (by omega) (by decide)), ev, jlet_e]
        have b2 := vbd H.1 H.2.2.2.1
        rw [m12_0 (H_cm H), m_shelf (H_cm H) (by omega), jb1_e] at e2 ⊢
        rw [e2, jb2_e, jlet_e, nI_1, g2]
theorem j01 {x : Int32} (h : ¬ x < 1) : ¬ x < 0 := fun w => by
  rw [Int32.lt_iff_toInt_lt] at h w
  have e1 : (0 : Int32).toInt = 0 := rfl
  have e2 : (1 : Int32).toInt = 1 := rfl
  omega
theorem s_lots : kS_lots (Rl Q1) := by
  intro a1 a2 Mx Mm R
  obtain ⟨q, c, H⟩ := R.2.2.2
  have b := vbd H.1 H.2.2.2.1
  unfold f_X5_lots f_X6_lots
  by_cases h1 : a1 < 1
  · rw [if_pos h1, m_in_f (Or.inl (by rw [show (1 : Int64) = (1 : Int32).toInt64 from rfl, jw_lt]; exact h1))]
    exact ⟨_, Mx, Mm, rfl, rfl, R⟩
  · by_cases h2 : 20 < a1
    · rw [if_neg h1, if_pos h2, m_in_f (Or.inr (by rw [show (20 : Int64) = (20 : Int32).toInt64 from rfl, jw_lt]; exact h2))]
      exact ⟨_, Mx, Mm, rfl, rfl, R⟩
    · rw [if_neg h1, if_neg h2, m_in_t (by rw [show (1 : Int64) = (1 : Int32).toInt64 from rfl, jw_lt]; exact h1) (by rw [show (20 : Int64) = (20 : Int32).toInt64 from rfl, jw_lt]; exact h2), jb1_e, if_neg j10]
      by_cases h3 : a2 < 1
      · rw [if_pos h3, m_in_f (Or.inl (by rw [show (1 : Int64) = (1 : Int32).toInt64 from rfl, jw_lt]; exact h3))]
        exact ⟨_, Mx, Mm, rfl, rfl, R⟩
      · by_cases h4 : a2 ≤ 2147483646
        · rw [if_neg h3, if_pos h4, m_in_t (by rw [show (1 : Int64) = (1 : Int32).toInt64 from rfl, jw_lt]; exact h3) (by rw [show (2147483646 : Int64) = (2147483646 : Int32).toInt64 from rfl, jw_lt]; exact Int32.not_lt.mpr h4), jb1_e, if_neg j10, H.2.1.1, H.2.2.1.1, jd0 H.1, jd0 H.1]
          by_cases e : q 0 0 = 0
          · rw [if_pos e, if_pos e]; exact ⟨_, Mx, Mm, rfl, rfl, R⟩
          · obtain ⟨n, hn, rfl⟩ := nI_of2 (x := a1) (M := 20) (n := 20) rfl (j01 h1) (Int32.not_lt.mp h2)
            obtain ⟨l, hl, rfl⟩ := nI_of (j01 h3)
            obtain ⟨l', k', Nx, Nm, c', did', g1, g2, g3, g4, g5⟩ := lt_loop (b := pc (vec q c (c 1 0) 3)) hn e n 0 jfu l 0 Mx Mm c (by omega) (by unfold jfu; omega) hl R H rfl
            have g1 : f_X5_lots_L56 jfu (nI n) (lN l) 0 Mx = _ := g1
            have g2 : f_X6_lots_L45 jfu (nI n) (lN l) 0 0 Mm = _ := g2
            have b' := vbd g4.1 g4.2.2.2.1
            rw [if_neg e, if_neg e, x10 (H_cx H), x_bc (by omega), jb1_e, nI_l hl, g1, g2, jb3_e, jb4_e, x10 (H_cx g4), x_bc (by omega), jb1_e, pk_sub (by omega), ← g5, Nat.add_sub_cancel_left]
            exact ⟨_, _, _, rfl, rfl, g3⟩
        · rw [if_neg h3, if_neg h4, m_in_f (Or.inr (by rw [show (2147483646 : Int64) = (2147483646 : Int32).toInt64 from rfl, jw_lt]; exact Int32.not_le.mp h4))]
          exact ⟨_, Mx, Mm, rfl, rfl, R⟩
end JN
