/-! opens, late, stolen, why, mark, route -/
section JE
variable {q c : Nat → Nat → Nat} {M Mx Mm : jM}
theorem x_nby (hq : okP q) (hx : hX q M) {o i : Nat} {w : Nat → Nat} (hw : ∀ k, k < q 0 0 → gi M o k = nI (w k) ∧ w k < 64) (hi : i < q 0 0) : f_X2_neededBy (nI i) o 6 M = some (nI (bts (fun k => (w k).testBit i) (q 0 0))) := by
  have h6 := hq.1
  have hl : f_X2_neededBy_L5 o 6 jfu (nI i) 0 0 M = some (nI (bts (fun k => (w k).testBit i) (q 0 0)), nI (q 0 0)) := by
    refine jloop0 (L := fun m (s : Int32 × Int32) => f_X2_neededBy_L5 o 6 m (nI i) s.1 s.2 M) (S := fun k => (nI (bts (fun k => (w k).testBit i) k), nI k)) (n := q 0 0) (by unfold jfu; omega) ?_ ?_
    · intro m k hk
      show f_X2_neededBy_L5_b o 6 (f_X2_neededBy_L5 o 6 m) (nI i) _ (nI k) M = f_X2_neededBy_L5 o 6 m (nI i) _ (nI (k + 1)) M
      unfold f_X2_neededBy_L5_b
      rw [hx.1, if_neg (nI_ge hk (by omega)), if_neg (show ¬ Int32.ofNat 6 ≤ nI k from nI_ge (b := 6) (by omega) (by decide)), jg_t (jin_nI (show k < 6 by omega) (by decide)), nI_clamp (show k < 2 ^ 31 by omega), (hw k hk).1, x_isIn (by have := (hw k hk).2; omega) (by omega), jb1_e, jlet_e, jlet_e, jlet_e, nI_1, b2_if, jshl k (by omega), jacc rfl]
    · intro m
      show f_X2_neededBy_L5_b o 6 (f_X2_neededBy_L5 o 6 m) (nI i) _ (nI (q 0 0)) M = _
      unfold f_X2_neededBy_L5_b
      rw [hx.1, if_pos (nI_le (Nat.le_refl _) (by omega))]
  unfold f_X2_neededBy
  rw [hl]; rfl
theorem m_opensL (hq : okP q) (hm : hM q M) {i : Nat} (hi : i < q 0 0) : f_X6_opens_L14 jfu (nI i) 0 0 M = some (nI (bts (fun k => (mc q k).testBit i) (q 0 0)), nI (q 0 0)) := by
  have h6 := hq.1
  refine jloop0 (L := fun m (s : Int32 × Int32) => f_X6_opens_L14 m (nI i) s.1 s.2 M) (S := fun k => (nI (bts (fun k => (mc q k).testBit i) k), nI k)) (n := q 0 0) (by unfold jfu; omega) ?_ ?_
  · intro m k hk
    show f_X6_opens_L14_b (f_X6_opens_L14 m) (nI i) _ (nI k) M = f_X6_opens_L14 m (nI i) _ (nI (k + 1)) M
    unfold f_X6_opens_L14_b
    rw [hm.1, if_neg (nI_ge hk (by omega)), m_alln hq hm hk, jb1_e, m_has (by have := mc_lt hq hk; omega) (by omega), jb1_e, jlet_e, jlet_e, jlet_e, nI_1, b2_if, jshl k (by omega), jacc rfl]
  · intro m
    show f_X6_opens_L14_b (f_X6_opens_L14 m) (nI i) _ (nI (q 0 0)) M = _
    unfold f_X6_opens_L14_b
    rw [hm.1, if_pos (nI_le (Nat.le_refl _) (by omega))]
theorem s_opens : kS_opens (Rl Q1) := by
  intro a1 Mx Mm R
  obtain ⟨q, c, H⟩ := R.2.2.2
  have h6 := H.1.1
  unfold f_X5_opens f_X6_opens
  rcases jdeed q H.1 a1 0 (Or.inl rfl) with b | ⟨i, hi, rfl⟩
  · rw [x_hd_f H.2.1 b, m_hd_f H.1 H.2.2.1 b]
    exact ⟨-1, Mx, Mm, rfl, rfl, R⟩
  · rw [x_hd_t H.1 H.2.1 hi, jb1_e, if_neg j10, m_hd_t H.1 H.2.2.1 hi, jb1_e, if_neg j10, x_nby (w := mc q) H.1 H.2.1 (fun k hk => ⟨(H.2.1.2.2.1 k hk).2.2.2.1, mc_lt H.1 hk⟩) hi, jb1_e, jlet_e, m_opensL H.1 H.2.2.1 hi, jb2_e, m_on (bts_128 (by omega)), jb1_e, m_answer, jb2_e]
    have e : gi (si Mx 0 10 (nI (bts (fun k => (mc q k).testBit i) (q 0 0)))) 0 10 = nI (bts (fun k => (mc q k).testBit i) (q 0 0)) := by rw [gi_si, if_pos ⟨rfl, rfl⟩]
    rw [e, x_bc (bts_128 (by omega)), jb1_e]
    exact ⟨_, _, _, rfl, rfl, rl_tell Q1_stay R _⟩
def lst (q c : Nat → Nat → Nat) : Nat → Nat
  | 0 => 0
  | k + 1 => if cmg q c k ≤ lst q c k then lst q c k else cmg q c k
theorem lst_le (hq : okP q) (hc : okC q c) : ∀ k, k ≤ q 0 1 → lst q c k ≤ 18
  | 0, _ => Nat.zero_le _
  | k + 1, h => by
    have h1 := lst_le hq hc k (by omega)
    have h2 := cmg_le hq hc (h := k) (by omega)
    show (if cmg q c k ≤ lst q c k then lst q c k else cmg q c k) ≤ 18
    split <;> omega
theorem whr0 (hq : okP q) (hc : okC q c) (h : Nat) : decide (whr q c (vec q c (c 1 0)) h = 0) = !(decide (cmg q c h ≤ vec q c (c 1 0) 0)) := by
  have g := (cgd hq hc).2.2.2.2.2.2.1 h
  unfold whr
  by_cases e1 : (vec q c (c 1 0) 1).testBit h = true
  · rw [if_pos e1]
    have := (g (by simp [e1])).2
    simp [this]
  · rw [if_neg e1]
    by_cases e2 : (vec q c (c 1 0) 2).testBit h = true
    · rw [if_pos e2]
      have := (g (by simp [e2])).2
      simp [this]
    · rw [if_neg e2]
      by_cases e3 : cmg q c h ≤ vec q c (c 1 0) 0
      · rw [if_pos e3]; simp [e3]
      · rw [if_neg e3]; simp [e3]
theorem whr_le (v : Nat → Nat) (h : Nat) : whr q c v h ≤ 3 := by
  unfold whr
  split
  · omega
  · split
    · omega
    · split <;> omega
theorem s_late : kS_late (Rl Q1) := by
  intro Mx Mm R
  obtain ⟨q, c, H⟩ := R.2.2.2
  have b := vbd H.1 H.2.2.2.1
  unfold f_X5_late f_X6_late
  rw [H.2.1.1, H.2.2.1.1, jd0 H.1, jd0 H.1]
  by_cases e : q 0 0 = 0
  · rw [if_pos e, if_pos e]; exact ⟨_, Mx, Mm, rfl, rfl, R⟩
  · rw [if_neg e, if_neg e]
    have hx : f_X5_late_L19 jfu 0 0 0 Mx = some (nI (lst q c (q 0 1)), nI (cnt (fun h => !(decide (cmg q c h ≤ vec q c (c 1 0) 0))) (q 0 1)), nI (q 0 1)) := by
      refine jloop0 (L := fun m (s : Int32 × Int32 × Int32) => f_X5_late_L19 m s.1 s.2.1 s.2.2 Mx) (S := fun k => (nI (lst q c k), nI (cnt (fun h => !(decide (cmg q c h ≤ vec q c (c 1 0) 0))) k), nI k)) (n := q 0 1) (by unfold jfu; omega) ?_ ?_
      · intro m k hk
        show f_X5_late_L19_b (f_X5_late_L19 m) _ _ (nI k) Mx = f_X5_late_L19 m _ _ (nI (k + 1)) Mx
        have e1 := cmg_le H.1 H.2.2.2.1 hk
        have e2 := lst_le H.1 H.2.2.2.1 k (by omega)
        have e3 := whr_le (q := q) (c := c) (vec q c (c 1 0)) k
        unfold f_X5_late_L19_b
        rw [H.2.1.2.1, if_neg (nI_ge hk (by omega)), x_comes (H_cx H) hk, jb1_e, jlet_e, x_where (H_cx H) hk, jb1_e, jlet_e, jlet_e, jlet_e, nI_1, jlt (by omega) (by omega), jzn (by omega), whr0 H.1 H.2.2.2.1, jcac (f := fun h => !(decide (cmg q c h ≤ vec q c (c 1 0) 0)))]
        · refine congrArg (fun z => f_X5_late_L19 m z _ (nI (k + 1)) Mx) ?_
          show _ = nI (if cmg q c k ≤ lst q c k then lst q c k else cmg q c k)
          simp only [decide_eq_true_eq]
          split <;> rfl
        · cases decide (cmg q c k ≤ vec q c (c 1 0) 0) <;> rfl
      · intro m
        show f_X5_late_L19_b (f_X5_late_L19 m) _ _ (nI (q 0 1)) Mx = _
        unfold f_X5_late_L19_b
        rw [H.2.1.2.1, if_pos (nI_le (Nat.le_refl _) (by omega))]
    have hm : f_X6_late_L16 jfu 0 0 0 Mm = some (nI (lst q c (q 0 1)), nI (cnt (fun h => !(decide (cmg q c h ≤ vec q c (c 1 0) 0))) (q 0 1)), nI (q 0 1)) := by
      refine jloop0 (L := fun m (s : Int32 × Int32 × Int32) => f_X6_late_L16 m s.1 s.2.1 s.2.2 Mm) (S := fun k => (nI (lst q c k), nI (cnt (fun h => !(decide (cmg q c h ≤ vec q c (c 1 0) 0))) k), nI k)) (n := q 0 1) (by unfold jfu; omega) ?_ ?_
      · intro m k hk
        show f_X6_late_L16_b (f_X6_late_L16 m) _ _ (nI k) Mm = f_X6_late_L16 m _ _ (nI (k + 1)) Mm
        have e1 := cmg_le H.1 H.2.2.2.1 hk
        have e2 := lst_le H.1 H.2.2.2.1 k (by omega)
        unfold f_X6_late_L16_b
        rw [H.2.2.1.2.1, if_neg (nI_ge hk (by omega)), m_comes (H_cm H) hk, jb1_e, jle (by omega) (by omega), jb1_e]
        have e4 : (if decide (cmg q c k ≤ lst q c k) = true then some (nI (lst q c k)) else some (nI (cmg q c k))) = some (nI (lst q c (k + 1))) := by
          show _ = some (nI (if cmg q c k ≤ lst q c k then lst q c k else cmg q c k))
          simp only [decide_eq_true_eq]
          split <;> rfl
        rw [e4, jb1_e, jb1_e, jlet_e, jlet_e, jlet_e, nI_1, m12_0 (H_cm H), jle (by omega) (by omega), jcac (f := fun h => !(decide (cmg q c h ≤ vec q c (c 1 0) 0)))]
        cases decide (cmg q c k ≤ vec q c (c 1 0) 0) <;> rfl
      · intro m
        show f_X6_late_L16_b (f_X6_late_L16 m) _ _ (nI (q 0 1)) Mm = _
        unfold f_X6_late_L16_b
        rw [H.2.2.1.2.1, if_pos (nI_le (Nat.le_refl _) (by omega))]
    rw [hx, hm, jb3_e, jb3_e, m_answer, jb2_e, jlet_e]
    exact ⟨_, _, _, rfl, rfl, rl_tell Q1_stay R _⟩
theorem m_stL (H : CM q c M) {d : Nat} (hd : d < 2 ^ 31) : f_X6_stolen_L31 jfu (nI d) 0 0 M = some (nI (bts (fun h => decide (cmg q c h ≤ d)) (q 0 1)), nI (q 0 1)) := by
  have b := vbd H.1 H.2.2.1
  refine jloop0 (L := fun m (s : Int32 × Int32) => f_X6_stolen_L31 m (nI d) s.1 s.2 M) (S := fun k => (nI (bts (fun h => decide (cmg q c h ≤ d)) k), nI k)) (n := q 0 1) (by unfold jfu; omega) ?_ ?_
  · intro m k hk
    show f_X6_stolen_L31_b (f_X6_stolen_L31 m) (nI d) _ (nI k) M = f_X6_stolen_L31 m (nI d) _ (nI (k + 1)) M
    have e := cmg_le H.1 H.2.2.1 hk
    unfold f_X6_stolen_L31_b
    rw [H.2.1.2.1, if_neg (nI_ge hk (by omega)), m_comes H hk, jb1_e, jlet_e, jlet_e, jlet_e, nI_1, jlt (by omega) (by omega), jshl k (by omega), jacc rfl]
  · intro m
    show f_X6_stolen_L31_b (f_X6_stolen_L31 m) (nI d) _ (nI (q 0 1)) M = _
    unfold f_X6_stolen_L31_b
    rw [H.2.1.2.1, if_pos (nI_le (Nat.le_refl _) (by omega))]
theorem s_stolen : kS_stolen (Rl Q1) := by
  intro a1 a2 Mx Mm R
  obtain ⟨q, c, H⟩ := R.2.2.2
  have h7 := H.1.2.1
  unfold f_X5_stolen f_X6_stolen
  rcases jcase a1 8 (by decide) with b | ⟨n, hn, rfl⟩
  · rw [m_in0_f (hi := 7) (n := 7) rfl b (by decide), jb1_e, if_pos j00]
    by_cases b1 : a1 < 0
    · rw [if_pos b1]; exact ⟨_, rfl, rfl⟩
    · have b3 : (7 : Int32) < a1 := by
        have b2 := b.resolve_left b1
        rw [Int32.le_iff_toInt_le] at b2
        rw [Int32.lt_iff_toInt_lt]
        have e1 : (nI 8).toInt = 8 := rfl
        have e2 : (7 : Int32).toInt = 7 := rfl
        omega
      rw [if_neg b1, if_pos b3]; exact ⟨_, rfl, rfl⟩
  · rw [m_in0_t (hi := 7) (j := n) (n := 7) rfl (by omega) (by decide), jb1_e, if_neg j10, if_neg (nI_pos (by omega)), if_neg (show ¬ (7 : Int32) < nI n from nI_nlt (a := 7) (by omega) (by decide))]
    rcases jcase a2 21 (by decide) with b | ⟨d, hd, rfl⟩
    · rw [m_in0_f (hi := 20) (n := 20) rfl b (by decide), jb1_e, if_pos j00]
      by_cases b1 : a2 < 0
      · rw [if_pos b1]; exact ⟨_, rfl, rfl⟩
      · have b3 : ¬ a2 ≤ (20 : Int32) := by
          have b2 := b.resolve_left b1
          rw [Int32.le_iff_toInt_le] at b2 ⊢
          have e1 : (nI 21).toInt = 21 := rfl
          have e2 : (20 : Int32).toInt = 20 := rfl
          omega
        rw [if_neg b1, if_neg b3]; exact ⟨_, rfl, rfl⟩
    · rw [m_in0_t (hi := 20) (j := d) (n := 20) rfl (by omega) (by decide), jb1_e, if_neg j10, if_neg (nI_pos (by omega)), if_pos (show nI d ≤ (20 : Int32) from nI_le (b := 20) (by omega) (by decide)), x_come (H_cx H) (by omega), m_stL (H_cm H) (by omega), jb1_e, jb2_e, x_bc (bts_128 h7), m_on (bts_128 h7), jb1_e]
      by_cases e : nI (pc (bts (fun h => decide (cmg q c h ≤ d)) (q 0 1))) = nI n + 1
      · rw [if_pos e]; exact ⟨_, rfl, rfl⟩
      · rw [if_neg e]; exact ⟨_, rfl, rfl⟩
theorem m_why0 : ∀ n, n < 64 → n ≠ 0 → f_X6_why_L62 jfu (nI n) 0 M00 = some (nI (lo n)) := by decide +kernel
theorem m_whyM : ∀ (m : Nat) (a b : Int32), f_X6_why_L62 m a b M = f_X6_why_L62 m a b M00
  | 0, _, _ => rfl
  | m + 1, a, b => by
    show f_X6_why_L62_b (f_X6_why_L62 m) a b M = f_X6_why_L62_b (f_X6_why_L62 m) a b M00
    unfold f_X6_why_L62_b
    rw [jlet_e, m_whyM m]; rfl
theorem s_why : kS_why (Rl Q1) := by
  intro a1 a2 Mx Mm R
  obtain ⟨q, c, H⟩ := R.2.2.2
  have b := vbd H.1 H.2.2.2.1
  unfold f_X5_why f_X6_why
  rcases jdeed q H.1 a1 0 (Or.inl rfl) with b | ⟨i, hi, rfl⟩
  · rw [x_hd_f H.2.1 b, m_hd_f H.1 H.2.2.1 b]
    exact ⟨-1, Mx, Mm, rfl, rfl, R⟩
  · rw [x_hd_t H.1 H.2.1 hi, jb1_e, if_neg j10, m_hd_t H.1 H.2.2.1 hi, jb1_e, if_neg j10]
    rcases jdeed q H.1 a2 1 (Or.inr rfl) with b | ⟨h, hh, rfl⟩
    · rw [x_hh_f H.2.1 b, m_hh_f H.1 H.2.2.1 b]
      exact ⟨-1, Mx, Mm, rfl, rfl, R⟩
    · have h3 := q3_lt H.1 hi
      rw [x_hh_t H.1 H.2.1 hh, jb1_e, if_neg j10, m_hh_t H.1 H.2.2.1 hh, jb1_e, if_neg j10, x_hinC (H_cx H) hi hh, jb1_e, m12_3 (H_cm H), m12_4 (H_cm H), m_has (by omega) (by omega), jb1_e, b2_if, jg_t (jin_nI (show i < 6 by omega) (by decide)), nI_clamp (show i < 2 ^ 31 by omega), (H.2.1.2.2.1 i hi).2.2.1, x10 (H_cx H), jlet_e, jg_t (jin_nI (show i < 6 by omega) (by decide)), (H.2.2.1.2.2.1 i hi).2.2, jdif (by omega) (by omega), x_first (dif_lt (by omega)), jb1_e, m_light H.1 H.2.2.1 hi hh, jb1_e, b2_if, m_isAs H.1 H.2.2.1 hi hh (by omega) (by omega), jb1_e, b2_if]
      unfold hin
      by_cases e1 : (vec q c (c 1 0) 3).testBit i = true
      · rw [if_pos e1, if_pos e1, if_neg (by decide), jb1_e, jlet_e, m_answer]
        exact ⟨_, _, _, rfl, rfl, rl_tell Q1_stay R _⟩
      · rw [if_neg e1, if_neg e1]
        have e5 : dif (q 3 i) (vec q c (c 1 0) 3) < 64 := Nat.lt_of_le_of_lt dif_le h3
        by_cases e2 : dif (q 3 i) (vec q c (c 1 0) 3) = 0
        · rw [if_pos e2, e2, if_pos (show nI 0 = 0 from rfl)]
          cases lit q i h with
          | false =>
            exact ⟨_, _, _, rfl, rfl, rl_tell Q1_stay R _⟩
          | true =>
            rw [if_pos rfl, if_pos rfl]
            cases (tim q i h && (hun q i (vec q c (c 1 0) 4) && com q i (vec q c (c 1 0) 3))) with
            | false =>
                exact ⟨_, _, _, rfl, rfl, rl_tell Q1_stay R _⟩
            | true =>
              exact ⟨_, _, _, rfl, rfl, rl_tell Q1_stay R _⟩
        · rw [if_neg e2, if_pos (by decide), if_neg (nI_ne0 (by omega) (by omega)), if_neg e2, jb1_e, jlet_e, m_whyM, m_why0 _ e5 e2, jb1_e, m_answer]
          exact ⟨_, _, _, rfl, rfl, rl_tell Q1_stay R _⟩
end JE
