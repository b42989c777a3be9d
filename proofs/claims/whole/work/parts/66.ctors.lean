def jfr (ad : Nat → Nat) (R : Nat → Nat → Option Nat) (M : jM) (o : Nat) : Nat → List Nat → List Value
  | _, [] => []
  | k, t :: ts => jval ad R M o k t :: jfr ad R M o (k + 1) ts
theorem jfr_get (ad : Nat → Nat) (R : Nat → Nat → Option Nat) (M : jM) (o : Nat) : ∀ (ts : List Nat) (k i : Nat), (jfr ad R M o k ts)[i]? = ts[i]?.map (fun t => jval ad R M o (k + i) t)
  | [], k, i => by simp [jfr]
  | t :: ts, k, 0 => by simp [jfr]
  | t :: ts, k, i + 1 => by
    show (jfr ad R M o (k + 1) ts)[i]? = ts[i]?.map _
    rw [jfr_get ad R M o ts (k + 1) i, show k + 1 + i = k + (i + 1) by omega]
theorem jfs_fr (ad : Nat → Nat) (R : Nat → Nat → Option Nat) (M : jM) (o : Nat) (ts : List Nat) : jfs ad R M o ts = jfr ad R M o 0 ts := by
  apply List.ext_getElem?
  intro i
  rw [jfr_get]
  unfold jfs
  rw [List.getElem?_mapIdx]
  simp only [Nat.zero_add]
def jcell2 (cy : Nat → ClassId) (ad : Nat → Nat) (R : Nat → Nat → Option Nat) (M : jM) (o : Nat) (h : Nat × Nat) : va_E :=
  if h.1 = 0 then .inl (cy 0, h.2, .inl (gi M o))
  else if h.1 = 1 then .inl (cy 1, h.2, .inr (.inl (gl M o)))
  else if h.1 = 2 then .inl (cy 2, h.2, .inl (gi M o))
  else if h.1 = 3 then .inl (cy 3, h.2, .inr (.inr (.inr (.inr (fun i => (R o i).map ad)))))
  else if h.1 = 4 then .inl (cy 4, h.2, .inr (.inr (.inr (.inr (fun i => (R o i).map ad)))))
  else .inr (h.1 - 10, jfr ad R M o 0 (jft (h.1 - 10)))
theorem jcell_2' (cy : Nat → ClassId) (ad : Nat → Nat) (R : Nat → Nat → Option Nat) (M : jM) (o : Nat) (h : Nat × Nat) : jcell cy ad R M o h = jcell2 cy ad R M o h := by
  unfold jcell jcell2
  rw [jfs_fr]
def jcl (cy : Nat → ClassId) (ad : Nat → Nat) (R : Nat → Nat → Option Nat) (M : jM) : Nat → List (Nat × Nat) → va_W
  | _, [] => []
  | o, h :: t => (ad o, jcell2 cy ad R M o h) :: jcl cy ad R M (o + 1) t
theorem jcl_get (cy : Nat → ClassId) (ad : Nat → Nat) (R : Nat → Nat → Option Nat) (M : jM) : ∀ (G : List (Nat × Nat)) (o i : Nat), (jcl cy ad R M o G)[i]? = G[i]?.map (fun h => (ad (o + i), jcell2 cy ad R M (o + i) h))
  | [], o, i => by simp [jcl]
  | h :: t, o, 0 => by simp [jcl]
  | h :: t, o, i + 1 => by
    show (jcl cy ad R M (o + 1) t)[i]? = t[i]?.map _
    rw [jcl_get cy ad R M t (o + 1) i, show o + 1 + i = o + (i + 1) by omega]
theorem jws_cl (cy : Nat → ClassId) (ad : Nat → Nat) (R : Nat → Nat → Option Nat) (M : jM) (G : List (Nat × Nat)) : jws cy ad R M G = jcl cy ad R M 0 G := by
  apply List.ext_getElem?
  intro i
  rw [jws_get, jcl_get]
  simp only [Nat.zero_add, jcell_2']
theorem cEcy (Γ : jG) : (cEo Γ).2.1 = jcy Γ := by
  obtain ⟨p, l, e, R, s, m, args, below, meth, c, nL, D, cy, ad, st, A, kc, ks⟩ := Γ
  rfl
def w4 (cy : Nat → ClassId) (h0 n k : Nat) (u : Nat → Nat) : va_W := [(h0, .inr (4, [.ref (u 0), .ref (u 1)])), (u 0, .inl (cy 0, n, .inl (fun j => if j < n then -1 else 0))), (u 1, .inl (cy 4, n, .inr (.inr (.inr (.inr (fun i => if i < n then some (u (i + 2)) else none))))))] ++ (List.range n).map (fun i => (u (i + 2), .inl (cy 0, k, .inl (fun _ => 0))))
def w2 (cy : Nat → ClassId) (h0 : Nat) (u : Nat → Nat) : va_W := [(h0, .inr (2, [.int 0, .int 0, .ref (u 0), .ref (u 1), .ref (u 2), .ref (u 3), .ref (u 4), .ref (u 5), .ref (u 6), .ref (u 7), .ref (u 8)])), ((u 0), .inl (cy 0, 6, .inl (fun _ => 0))), ((u 1), .inl (cy 0, 6, .inl (fun _ => 0))), ((u 2), .inl (cy 0, 6, .inl (fun _ => 0))), ((u 3), .inl (cy 0, 6, .inl (fun _ => 0))), ((u 4), .inl (cy 0, 7, .inl (fun _ => 0))), ((u 5), .inl (cy 0, 7, .inl (fun _ => 0))), ((u 6), .inl (cy 0, 7, .inl (fun _ => 0))), ((u 7), .inl (cy 1, 6, .inr (.inl (fun _ => 0)))), ((u 8), .inl (cy 0, 6, .inl (fun _ => 0)))]
def w3 (cy : Nat → ClassId) (h0 : Nat) (u : Nat → Nat) : va_W := [(h0, .inr (3, [.ref (u 0), .ref (u 10), .int 0, .int 0])), ((u 0), .inr (2, [.int 0, .int 0, .ref (u 1), .ref (u 2), .ref (u 3), .ref (u 4), .ref (u 5), .ref (u 6), .ref (u 7), .ref (u 8), .ref (u 9)])), ((u 1), .inl (cy 0, 6, .inl (fun _ => 0))), ((u 2), .inl (cy 0, 6, .inl (fun _ => 0))), ((u 3), .inl (cy 0, 6, .inl (fun _ => 0))), ((u 4), .inl (cy 0, 6, .inl (fun _ => 0))), ((u 5), .inl (cy 0, 7, .inl (fun _ => 0))), ((u 6), .inl (cy 0, 7, .inl (fun _ => 0))), ((u 7), .inl (cy 0, 7, .inl (fun _ => 0))), ((u 8), .inl (cy 1, 6, .inr (.inl (fun _ => 0)))), ((u 9), .inl (cy 0, 6, .inl (fun _ => 0))), ((u 10), .inl (cy 0, 0, .inl (fun _ => 0)))]
def w0 (cy : Nat → ClassId) (h0 pl : Nat) (u : Nat → Nat) : va_W := [(h0, .inr (0, [.ref pl, .ref (u 0), .ref (u 1), .ref (u 2), .ref (u 3), .ref (u 4), .int 0, .int 0, .int 0, .int 0, .int 0, .int 0])), ((u 0), .inl (cy 0, 3, .inl (va_cpy (fun q => (jsI 0).getD q 0) (fun _ => 0) 0 0 3))), ((u 1), .inl (cy 0, 40, .inl (fun _ => 0))), ((u 2), .inl (cy 0, 40, .inl (fun _ => 0))), ((u 3), .inl (cy 0, 40, .inl (fun _ => 0))), ((u 4), .inl (cy 0, 7, .inl (fun k => if k < 7 then -9 else 0)))]
def w1 (cy : Nat → ClassId) (h0 pl : Nat) (u : Nat → Nat) : va_W := [(h0, .inr (1, [.ref pl, .ref (u 0), .ref (u 1), .int 0, .int 0, .int 0, .int 0])), ((u 0), .inl (cy 1, 384, .inr (.inl (fun _ => 0)))), ((u 1), .inl (cy 1, 384, .inr (.inl (fun _ => 0))))]
set_option maxRecDepth 100000 in
set_option maxHeartbeats 4000000 in
theorem ct_X4_6 (l : Launch) (E : cE) (h0 : Nat) : cCt l yX4_init cX4_init 3 1 8 252 23 E [.ref h0, .int 6, .int 40] [(h0, .inr (4, [.null, .null]))] (w4 E.2.1 h0 6 40) := by
  refine cCt_of (own := RX4) (by decide) rfl rfl (Nat.le_of_ble_eq_true rfl) ?_
  intro Γ hC hin hE hl
  subst hE
  subst hl
  rw [cEcy]
  show cJ Γ [(h0, .inr (4, [.null, .null]))] 0 0 0 [(0, .ref h0), (1, .int 6), (2, .int 40)] [] _
  refine c_aload_n 0 (pc' := 1) hC dX4_init_0 rfl rfl ?_
  refine c_obj (pc' := 4) hC dX4_init_1 rfl ko_X4_3 ⟨Nat.le_of_ble_eq_true rfl, Nat.le_of_ble_eq_true rfl⟩ ?_
  refine c_aload_n 0 (pc' := 5) hC dX4_init_4 rfl rfl ?_
  refine c_iload_n 1 (pc' := 6) hC dX4_init_5 rfl rfl ?_
  refine c_new0 (N := 6) (pc' := 8) hC dX4_init_6 rfl ac_int ⟨by decide, rfl, by decide⟩ ⟨Nat.le_of_ble_eq_true rfl, Nat.le_of_ble_eq_true rfl⟩ (fun q1 => ?_)
  show cJ Γ [(h0, .inr (4, [.null, .null])), (q1, .inl ((jcy Γ) 0, 6, .inl (fun _ => 0)))] 1 6 8 [(0, .ref h0), (1, .int 6), (2, .int 40)] [.ref q1, .ref h0] _
  refine c_put (ws' := [(h0, .inr (4, [.ref q1, .null])), (q1, .inl ((jcy Γ) 0, 6, .inl (fun _ => 0)))]) (k0 := 0) 0 (pc' := 11) hC hin dX4_init_8 rfl cls4 (by decide) fi_X4_9.2.2.1 rfl rfl ⟨rfl, rfl⟩ rfl (Nat.le_of_ble_eq_true rfl) rfl ?_
  refine c_aload_n 0 (pc' := 12) hC dX4_init_11 rfl rfl ?_
  refine c_iload_n 1 (pc' := 13) hC dX4_init_12 rfl rfl ?_
  refine c_iload_n 2 (pc' := 14) hC dX4_init_13 rfl rfl ?_
  refine c_mna (N := 6) (K := 40) (pc' := 18) hC dX4_init_14 rfl ⟨kl_X4_15, ac_int⟩ ⟨⟨by decide, rfl, by decide⟩, by decide, rfl, by decide⟩ ⟨Nat.le_of_ble_eq_true rfl, Nat.le_of_ble_eq_true rfl⟩ (fun q2 r3 => ?_)
  show cJ Γ [(h0, .inr (4, [.ref q1, .null])), (q1, .inl ((jcy Γ) 0, 6, .inl (fun _ => 0))), (q2, .inl ((jcy Γ) 4, 6, .inr (.inr (.inr (.inr (fun i => if i < 6 then some (r3 i) else none)))))), ((r3 0), .inl ((jcy Γ) 0, 40, .inl (fun _ => 0))), ((r3 1), .inl ((jcy Γ) 0, 40, .inl (fun _ => 0))), ((r3 2), .inl ((jcy Γ) 0, 40, .inl (fun _ => 0))), ((r3 3), .inl ((jcy Γ) 0, 40, .inl (fun _ => 0))), ((r3 4), .inl ((jcy Γ) 0, 40, .inl (fun _ => 0))), ((r3 5), .inl ((jcy Γ) 0, 40, .inl (fun _ => 0)))] 8 252 18 [(0, .ref h0), (1, .int 6), (2, .int 40)] [.ref q2, .ref h0] _
  refine c_put (ws' := [(h0, .inr (4, [.ref q1, .ref q2])), (q1, .inl ((jcy Γ) 0, 6, .inl (fun _ => 0))), (q2, .inl ((jcy Γ) 4, 6, .inr (.inr (.inr (.inr (fun i => if i < 6 then some (r3 i) else none)))))), ((r3 0), .inl ((jcy Γ) 0, 40, .inl (fun _ => 0))), ((r3 1), .inl ((jcy Γ) 0, 40, .inl (fun _ => 0))), ((r3 2), .inl ((jcy Γ) 0, 40, .inl (fun _ => 0))), ((r3 3), .inl ((jcy Γ) 0, 40, .inl (fun _ => 0))), ((r3 4), .inl ((jcy Γ) 0, 40, .inl (fun _ => 0))), ((r3 5), .inl ((jcy Γ) 0, 40, .inl (fun _ => 0)))]) (k0 := 1) 0 (pc' := 21) hC hin dX4_init_18 rfl cls4 (by decide) fi_X4_17.2.2.1 rfl rfl ⟨rfl, rfl⟩ rfl (Nat.le_of_ble_eq_true rfl) rfl ?_
  refine c_aload_n 0 (pc' := 22) hC dX4_init_21 rfl rfl ?_
  refine c_get (k0 := 0) 0 (pc' := 25) hC dX4_init_22 rfl cls4 (by decide) fi_X4_9.2.2.1 rfl rfl ?_
  refine c_iconst (v := -1) (pc' := 26) hC dX4_init_25 rfl rfl ?_
  refine c_fill (ws' := [(h0, .inr (4, [.ref q1, .ref q2])), (q1, .inl ((jcy Γ) 0, 6, .inl (fun k => if k < 6 then -1 else 0))), (q2, .inl ((jcy Γ) 4, 6, .inr (.inr (.inr (.inr (fun i => if i < 6 then some (r3 i) else none)))))), ((r3 0), .inl ((jcy Γ) 0, 40, .inl (fun _ => 0))), ((r3 1), .inl ((jcy Γ) 0, 40, .inl (fun _ => 0))), ((r3 2), .inl ((jcy Γ) 0, 40, .inl (fun _ => 0))), ((r3 3), .inl ((jcy Γ) 0, 40, .inl (fun _ => 0))), ((r3 4), .inl ((jcy Γ) 0, 40, .inl (fun _ => 0))), ((r3 5), .inl ((jcy Γ) 0, 40, .inl (fun _ => 0)))]) (N := 6) 1 (pc' := 29) hC dX4_init_26 rfl (by decide) cs_X4_20 rfl ⟨⟨Nat.le_of_ble_eq_true rfl, Nat.le_of_ble_eq_true rfl⟩, Nat.le_of_ble_eq_true rfl, Nat.le_of_ble_eq_true rfl, Nat.le_of_ble_eq_true rfl⟩ rfl ?_
  exact c_vret (fun i => match i with | 0 => q1 | 1 => q2 | i + 2 => r3 i) hC dX4_init_29 [0, 1, 2, 3, 4, 5, 6, 7, 8] rfl rfl
set_option maxRecDepth 100000 in
set_option maxHeartbeats 4000000 in
theorem ct_X4_4 (l : Launch) (E : cE) (h0 : Nat) : cCt l yX4_init cX4_init 3 1 6 328 23 E [.ref h0, .int 4, .int 80] [(h0, .inr (4, [.null, .null]))] (w4 E.2.1 h0 4 80) := by
  refine cCt_of (own := RX4) (by decide) rfl rfl (Nat.le_of_ble_eq_true rfl) ?_
  intro Γ hC hin hE hl
  subst hE
  subst hl
  rw [cEcy]
  show cJ Γ [(h0, .inr (4, [.null, .null]))] 0 0 0 [(0, .ref h0), (1, .int 4), (2, .int 80)] [] _
  refine c_aload_n 0 (pc' := 1) hC dX4_init_0 rfl rfl ?_
  refine c_obj (pc' := 4) hC dX4_init_1 rfl ko_X4_3 ⟨Nat.le_of_ble_eq_true rfl, Nat.le_of_ble_eq_true rfl⟩ ?_
  refine c_aload_n 0 (pc' := 5) hC dX4_init_4 rfl rfl ?_
  refine c_iload_n 1 (pc' := 6) hC dX4_init_5 rfl rfl ?_
  refine c_new0 (N := 4) (pc' := 8) hC dX4_init_6 rfl ac_int ⟨by decide, rfl, by decide⟩ ⟨Nat.le_of_ble_eq_true rfl, Nat.le_of_ble_eq_true rfl⟩ (fun q1 => ?_)
  show cJ Γ [(h0, .inr (4, [.null, .null])), (q1, .inl ((jcy Γ) 0, 4, .inl (fun _ => 0)))] 1 4 8 [(0, .ref h0), (1, .int 4), (2, .int 80)] [.ref q1, .ref h0] _
  refine c_put (ws' := [(h0, .inr (4, [.ref q1, .null])), (q1, .inl ((jcy Γ) 0, 4, .inl (fun _ => 0)))]) (k0 := 0) 0 (pc' := 11) hC hin dX4_init_8 rfl cls4 (by decide) fi_X4_9.2.2.1 rfl rfl ⟨rfl, rfl⟩ rfl (Nat.le_of_ble_eq_true rfl) rfl ?_
  refine c_aload_n 0 (pc' := 12) hC dX4_init_11 rfl rfl ?_
  refine c_iload_n 1 (pc' := 13) hC dX4_init_12 rfl rfl ?_
  refine c_iload_n 2 (pc' := 14) hC dX4_init_13 rfl rfl ?_
  refine c_mna (N := 4) (K := 80) (pc' := 18) hC dX4_init_14 rfl ⟨kl_X4_15, ac_int⟩ ⟨⟨by decide, rfl, by decide⟩, by decide, rfl, by decide⟩ ⟨Nat.le_of_ble_eq_true rfl, Nat.le_of_ble_eq_true rfl⟩ (fun q2 r3 => ?_)
  show cJ Γ [(h0, .inr (4, [.ref q1, .null])), (q1, .inl ((jcy Γ) 0, 4, .inl (fun _ => 0))), (q2, .inl ((jcy Γ) 4, 4, .inr (.inr (.inr (.inr (fun i => if i < 4 then some (r3 i) else none)))))), ((r3 0), .inl ((jcy Γ) 0, 80, .inl (fun _ => 0))), ((r3 1), .inl ((jcy Γ) 0, 80, .inl (fun _ => 0))), ((r3 2), .inl ((jcy Γ) 0, 80, .inl (fun _ => 0))), ((r3 3), .inl ((jcy Γ) 0, 80, .inl (fun _ => 0)))] 6 328 18 [(0, .ref h0), (1, .int 4), (2, .int 80)] [.ref q2, .ref h0] _
  refine c_put (ws' := [(h0, .inr (4, [.ref q1, .ref q2])), (q1, .inl ((jcy Γ) 0, 4, .inl (fun _ => 0))), (q2, .inl ((jcy Γ) 4, 4, .inr (.inr (.inr (.inr (fun i => if i < 4 then some (r3 i) else none)))))), ((r3 0), .inl ((jcy Γ) 0, 80, .inl (fun _ => 0))), ((r3 1), .inl ((jcy Γ) 0, 80, .inl (fun _ => 0))), ((r3 2), .inl ((jcy Γ) 0, 80, .inl (fun _ => 0))), ((r3 3), .inl ((jcy Γ) 0, 80, .inl (fun _ => 0)))]) (k0 := 1) 0 (pc' := 21) hC hin dX4_init_18 rfl cls4 (by decide) fi_X4_17.2.2.1 rfl rfl ⟨rfl, rfl⟩ rfl (Nat.le_of_ble_eq_true rfl) rfl ?_
  refine c_aload_n 0 (pc' := 22) hC dX4_init_21 rfl rfl ?_
  refine c_get (k0 := 0) 0 (pc' := 25) hC dX4_init_22 rfl cls4 (by decide) fi_X4_9.2.2.1 rfl rfl ?_
  refine c_iconst (v := -1) (pc' := 26) hC dX4_init_25 rfl rfl ?_
  refine c_fill (ws' := [(h0, .inr (4, [.ref q1, .ref q2])), (q1, .inl ((jcy Γ) 0, 4, .inl (fun k => if k < 4 then -1 else 0))), (q2, .inl ((jcy Γ) 4, 4, .inr (.inr (.inr (.inr (fun i => if i < 4 then some (r3 i) else none)))))), ((r3 0), .inl ((jcy Γ) 0, 80, .inl (fun _ => 0))), ((r3 1), .inl ((jcy Γ) 0, 80, .inl (fun _ => 0))), ((r3 2), .inl ((jcy Γ) 0, 80, .inl (fun _ => 0))), ((r3 3), .inl ((jcy Γ) 0, 80, .inl (fun _ => 0)))]) (N := 4) 1 (pc' := 29) hC dX4_init_26 rfl (by decide) cs_X4_20 rfl ⟨⟨Nat.le_of_ble_eq_true rfl, Nat.le_of_ble_eq_true rfl⟩, Nat.le_of_ble_eq_true rfl, Nat.le_of_ble_eq_true rfl, Nat.le_of_ble_eq_true rfl⟩ rfl ?_
  exact c_vret (fun i => match i with | 0 => q1 | 1 => q2 | i + 2 => r3 i) hC dX4_init_29 [0, 1, 2, 3, 4, 5, 6] rfl rfl
set_option maxRecDepth 100000 in
set_option maxHeartbeats 4000000 in
theorem ct_X2 (l : Launch) (E : cE) (h0 : Nat) : cCt l yX2_init cX2_init 1 1 9 57 20 E [.ref h0] [(h0, .inr (2, [.int 0, .int 0, .null, .null, .null, .null, .null, .null, .null, .null, .null]))] (w2 E.2.1 h0) := by
  refine cCt_of (own := RX2) (by decide) rfl rfl (Nat.le_of_ble_eq_true rfl) ?_
  intro Γ hC hin hE hl
  subst hE
  subst hl
  rw [cEcy]
  show cJ Γ [(h0, .inr (2, [.int 0, .int 0, .null, .null, .null, .null, .null, .null, .null, .null, .null]))] 0 0 0 [(0, .ref h0)] [] _
  refine c_aload_n 0 (pc' := 1) hC dX2_init_0 rfl rfl ?_
  refine c_obj (pc' := 4) hC dX2_init_1 rfl ko_X2_3 ⟨Nat.le_of_ble_eq_true rfl, Nat.le_of_ble_eq_true rfl⟩ ?_
  refine c_aload_n 0 (pc' := 5) hC dX2_init_4 rfl rfl ?_
  refine c_iconst (v := 0) (pc' := 6) hC dX2_init_5 rfl rfl ?_
  refine c_put (ws' := [(h0, .inr (2, [.int 0, .int 0, .null, .null, .null, .null, .null, .null, .null, .null, .null]))]) (k0 := 0) 0 (pc' := 9) hC hin dX2_init_6 rfl cls2 (by decide) fi_X2_9.2.2.1 rfl rfl ⟨rfl, rfl⟩ rfl (Nat.le_of_ble_eq_true rfl) rfl ?_
  refine c_aload_n 0 (pc' := 10) hC dX2_init_9 rfl rfl ?_
  refine c_iconst (v := 0) (pc' := 11) hC dX2_init_10 rfl rfl ?_
  refine c_put (ws' := [(h0, .inr (2, [.int 0, .int 0, .null, .null, .null, .null, .null, .null, .null, .null, .null]))]) (k0 := 1) 0 (pc' := 14) hC hin dX2_init_11 rfl cls2 (by decide) fi_X2_15.2.2.1 rfl rfl ⟨rfl, rfl⟩ rfl (Nat.le_of_ble_eq_true rfl) rfl ?_
  refine c_aload_n 0 (pc' := 15) hC dX2_init_14 rfl rfl ?_
  refine c_bipush (v := 6) (pc' := 17) hC dX2_init_15 rfl rfl ?_
  refine c_new0 (N := 6) (pc' := 19) hC dX2_init_17 rfl ac_int ⟨by decide, rfl, by decide⟩ ⟨Nat.le_of_ble_eq_true rfl, Nat.le_of_ble_eq_true rfl⟩ (fun q1 => ?_)
  show cJ Γ [(h0, .inr (2, [.int 0, .int 0, .null, .null, .null, .null, .null, .null, .null, .null, .null])), (q1, .inl ((jcy Γ) 0, 6, .inl (fun _ => 0)))] 1 6 19 [(0, .ref h0)] [.ref q1, .ref h0] _
  refine c_put (ws' := [(h0, .inr (2, [.int 0, .int 0, .ref q1, .null, .null, .null, .null, .null, .null, .null, .null])), (q1, .inl ((jcy Γ) 0, 6, .inl (fun _ => 0)))]) (k0 := 2) 0 (pc' := 22) hC hin dX2_init_19 rfl cls2 (by decide) fi_X2_18.2.2.1 rfl rfl ⟨rfl, rfl⟩ rfl (Nat.le_of_ble_eq_true rfl) rfl ?_
  refine c_aload_n 0 (pc' := 23) hC dX2_init_22 rfl rfl ?_
  refine c_bipush (v := 6) (pc' := 25) hC dX2_init_23 rfl rfl ?_
  refine c_new0 (N := 6) (pc' := 27) hC dX2_init_25 rfl ac_int ⟨by decide, rfl, by decide⟩ ⟨Nat.le_of_ble_eq_true rfl, Nat.le_of_ble_eq_true rfl⟩ (fun q2 => ?_)
  show cJ Γ [(h0, .inr (2, [.int 0, .int 0, .ref q1, .null, .null, .null, .null, .null, .null, .null, .null])), (q1, .inl ((jcy Γ) 0, 6, .inl (fun _ => 0))), (q2, .inl ((jcy Γ) 0, 6, .inl (fun _ => 0)))] 2 12 27 [(0, .ref h0)] [.ref q2, .ref h0] _
  refine c_put (ws' := [(h0, .inr (2, [.int 0, .int 0, .ref q1, .ref q2, .null, .null, .null, .null, .null, .null, .null])), (q1, .inl ((jcy Γ) 0, 6, .inl (fun _ => 0))), (q2, .inl ((jcy Γ) 0, 6, .inl (fun _ => 0)))]) (k0 := 3) 0 (pc' := 30) hC hin dX2_init_27 rfl cls2 (by decide) fi_X2_22.2.2.1 rfl rfl ⟨rfl, rfl⟩ rfl (Nat.le_of_ble_eq_true rfl) rfl ?_
  refine c_aload_n 0 (pc' := 31) hC dX2_init_30 rfl rfl ?_
  refine c_bipush (v := 6) (pc' := 33) hC dX2_init_31 rfl rfl ?_
  refine c_new0 (N := 6) (pc' := 35) hC dX2_init_33 rfl ac_int ⟨by decide, rfl, by decide⟩ ⟨Nat.le_of_ble_eq_true rfl, Nat.le_of_ble_eq_true rfl⟩ (fun q3 => ?_)
  show cJ Γ [(h0, .inr (2, [.int 0, .int 0, .ref q1, .ref q2, .null, .null, .null, .null, .null, .null, .null])), (q1, .inl ((jcy Γ) 0, 6, .inl (fun _ => 0))), (q2, .inl ((jcy Γ) 0, 6, .inl (fun _ => 0))), (q3, .inl ((jcy Γ) 0, 6, .inl (fun _ => 0)))] 3 18 35 [(0, .ref h0)] [.ref q3, .ref h0] _
  refine c_put (ws' := [(h0, .inr (2, [.int 0, .int 0, .ref q1, .ref q2, .ref q3, .null, .null, .null, .null, .null, .null])), (q1, .inl ((jcy Γ) 0, 6, .inl (fun _ => 0))), (q2, .inl ((jcy Γ) 0, 6, .inl (fun _ => 0))), (q3, .inl ((jcy Γ) 0, 6, .inl (fun _ => 0)))]) (k0 := 4) 0 (pc' := 38) hC hin dX2_init_35 rfl cls2 (by decide) fi_X2_25.2.2.1 rfl rfl ⟨rfl, rfl⟩ rfl (Nat.le_of_ble_eq_true rfl) rfl ?_
  refine c_aload_n 0 (pc' := 39) hC dX2_init_38 rfl rfl ?_
  refine c_bipush (v := 6) (pc' := 41) hC dX2_init_39 rfl rfl ?_
  refine c_new0 (N := 6) (pc' := 43) hC dX2_init_41 rfl ac_int ⟨by decide, rfl, by decide⟩ ⟨Nat.le_of_ble_eq_true rfl, Nat.le_of_ble_eq_true rfl⟩ (fun q4 => ?_)
  show cJ Γ [(h0, .inr (2, [.int 0, .int 0, .ref q1, .ref q2, .ref q3, .null, .null, .null, .null, .null, .null])), (q1, .inl ((jcy Γ) 0, 6, .inl (fun _ => 0))), (q2, .inl ((jcy Γ) 0, 6, .inl (fun _ => 0))), (q3, .inl ((jcy Γ) 0, 6, .inl (fun _ => 0))), (q4, .inl ((jcy Γ) 0, 6, .inl (fun _ => 0)))] 4 24 43 [(0, .ref h0)] [.ref q4, .ref h0] _
  refine c_put (ws' := [(h0, .inr (2, [.int 0, .int 0, .ref q1, .ref q2, .ref q3, .ref q4, .null, .null, .null, .null, .null])), (q1, .inl ((jcy Γ) 0, 6, .inl (fun _ => 0))), (q2, .inl ((jcy Γ) 0, 6, .inl (fun _ => 0))), (q3, .inl ((jcy Γ) 0, 6, .inl (fun _ => 0))), (q4, .inl ((jcy Γ) 0, 6, .inl (fun _ => 0)))]) (k0 := 5) 0 (pc' := 46) hC hin dX2_init_43 rfl cls2 (by decide) fi_X2_28.2.2.1 rfl rfl ⟨rfl, rfl⟩ rfl (Nat.le_of_ble_eq_true rfl) rfl ?_
  refine c_aload_n 0 (pc' := 47) hC dX2_init_46 rfl rfl ?_
  refine c_bipush (v := 7) (pc' := 49) hC dX2_init_47 rfl rfl ?_
  refine c_new0 (N := 7) (pc' := 51) hC dX2_init_49 rfl ac_int ⟨by decide, rfl, by decide⟩ ⟨Nat.le_of_ble_eq_true rfl, Nat.le_of_ble_eq_true rfl⟩ (fun q5 => ?_)
  show cJ Γ [(h0, .inr (2, [.int 0, .int 0, .ref q1, .ref q2, .ref q3, .ref q4, .null, .null, .null, .null, .null])), (q1, .inl ((jcy Γ) 0, 6, .inl (fun _ => 0))), (q2, .inl ((jcy Γ) 0, 6, .inl (fun _ => 0))), (q3, .inl ((jcy Γ) 0, 6, .inl (fun _ => 0))), (q4, .inl ((jcy Γ) 0, 6, .inl (fun _ => 0))), (q5, .inl ((jcy Γ) 0, 7, .inl (fun _ => 0)))] 5 31 51 [(0, .ref h0)] [.ref q5, .ref h0] _
  refine c_put (ws' := [(h0, .inr (2, [.int 0, .int 0, .ref q1, .ref q2, .ref q3, .ref q4, .ref q5, .null, .null, .null, .null])), (q1, .inl ((jcy Γ) 0, 6, .inl (fun _ => 0))), (q2, .inl ((jcy Γ) 0, 6, .inl (fun _ => 0))), (q3, .inl ((jcy Γ) 0, 6, .inl (fun _ => 0))), (q4, .inl ((jcy Γ) 0, 6, .inl (fun _ => 0))), (q5, .inl ((jcy Γ) 0, 7, .inl (fun _ => 0)))]) (k0 := 6) 0 (pc' := 54) hC hin dX2_init_51 rfl cls2 (by decide) fi_X2_31.2.2.1 rfl rfl ⟨rfl, rfl⟩ rfl (Nat.le_of_ble_eq_true rfl) rfl ?_
  refine c_aload_n 0 (pc' := 55) hC dX2_init_54 rfl rfl ?_
  refine c_bipush (v := 7) (pc' := 57) hC dX2_init_55 rfl rfl ?_
  refine c_new0 (N := 7) (pc' := 59) hC dX2_init_57 rfl ac_int ⟨by decide, rfl, by decide⟩ ⟨Nat.le_of_ble_eq_true rfl, Nat.le_of_ble_eq_true rfl⟩ (fun q6 => ?_)
  show cJ Γ [(h0, .inr (2, [.int 0, .int 0, .ref q1, .ref q2, .ref q3, .ref q4, .ref q5, .null, .null, .null, .null])), (q1, .inl ((jcy Γ) 0, 6, .inl (fun _ => 0))), (q2, .inl ((jcy Γ) 0, 6, .inl (fun _ => 0))), (q3, .inl ((jcy Γ) 0, 6, .inl (fun _ => 0))), (q4, .inl ((jcy Γ) 0, 6, .inl (fun _ => 0))), (q5, .inl ((jcy Γ) 0, 7, .inl (fun _ => 0))), (q6, .inl ((jcy Γ) 0, 7, .inl (fun _ => 0)))] 6 38 59 [(0, .ref h0)] [.ref q6, .ref h0] _
  refine c_put (ws' := [(h0, .inr (2, [.int 0, .int 0, .ref q1, .ref q2, .ref q3, .ref q4, .ref q5, .ref q6, .null, .null, .null])), (q1, .inl ((jcy Γ) 0, 6, .inl (fun _ => 0))), (q2, .inl ((jcy Γ) 0, 6, .inl (fun _ => 0))), (q3, .inl ((jcy Γ) 0, 6, .inl (fun _ => 0))), (q4, .inl ((jcy Γ) 0, 6, .inl (fun _ => 0))), (q5, .inl ((jcy Γ) 0, 7, .inl (fun _ => 0))), (q6, .inl ((jcy Γ) 0, 7, .inl (fun _ => 0)))]) (k0 := 7) 0 (pc' := 62) hC hin dX2_init_59 rfl cls2 (by decide) fi_X2_34.2.2.1 rfl rfl ⟨rfl, rfl⟩ rfl (Nat.le_of_ble_eq_true rfl) rfl ?_
  refine c_aload_n 0 (pc' := 63) hC dX2_init_62 rfl rfl ?_
  refine c_bipush (v := 7) (pc' := 65) hC dX2_init_63 rfl rfl ?_
  refine c_new0 (N := 7) (pc' := 67) hC dX2_init_65 rfl ac_int ⟨by decide, rfl, by decide⟩ ⟨Nat.le_of_ble_eq_true rfl, Nat.le_of_ble_eq_true rfl⟩ (fun q7 => ?_)
  show cJ Γ [(h0, .inr (2, [.int 0, .int 0, .ref q1, .ref q2, .ref q3, .ref q4, .ref q5, .ref q6, .null, .null, .null])), (q1, .inl ((jcy Γ) 0, 6, .inl (fun _ => 0))), (q2, .inl ((jcy Γ) 0, 6, .inl (fun _ => 0))), (q3, .inl ((jcy Γ) 0, 6, .inl (fun _ => 0))), (q4, .inl ((jcy Γ) 0, 6, .inl (fun _ => 0))), (q5, .inl ((jcy Γ) 0, 7, .inl (fun _ => 0))), (q6, .inl ((jcy Γ) 0, 7, .inl (fun _ => 0))), (q7, .inl ((jcy Γ) 0, 7, .inl (fun _ => 0)))] 7 45 67 [(0, .ref h0)] [.ref q7, .ref h0] _
  refine c_put (ws' := [(h0, .inr (2, [.int 0, .int 0, .ref q1, .ref q2, .ref q3, .ref q4, .ref q5, .ref q6, .ref q7, .null, .null])), (q1, .inl ((jcy Γ) 0, 6, .inl (fun _ => 0))), (q2, .inl ((jcy Γ) 0, 6, .inl (fun _ => 0))), (q3, .inl ((jcy Γ) 0, 6, .inl (fun _ => 0))), (q4, .inl ((jcy Γ) 0, 6, .inl (fun _ => 0))), (q5, .inl ((jcy Γ) 0, 7, .inl (fun _ => 0))), (q6, .inl ((jcy Γ) 0, 7, .inl (fun _ => 0))), (q7, .inl ((jcy Γ) 0, 7, .inl (fun _ => 0)))]) (k0 := 8) 0 (pc' := 70) hC hin dX2_init_67 rfl cls2 (by decide) fi_X2_37.2.2.1 rfl rfl ⟨rfl, rfl⟩ rfl (Nat.le_of_ble_eq_true rfl) rfl ?_
  refine c_aload_n 0 (pc' := 71) hC dX2_init_70 rfl rfl ?_
  refine c_bipush (v := 6) (pc' := 73) hC dX2_init_71 rfl rfl ?_
  refine c_new1 (N := 6) (pc' := 75) hC dX2_init_73 rfl ac_long ⟨by decide, rfl, by decide⟩ ⟨Nat.le_of_ble_eq_true rfl, Nat.le_of_ble_eq_true rfl⟩ (fun q8 => ?_)
  show cJ Γ [(h0, .inr (2, [.int 0, .int 0, .ref q1, .ref q2, .ref q3, .ref q4, .ref q5, .ref q6, .ref q7, .null, .null])), (q1, .inl ((jcy Γ) 0, 6, .inl (fun _ => 0))), (q2, .inl ((jcy Γ) 0, 6, .inl (fun _ => 0))), (q3, .inl ((jcy Γ) 0, 6, .inl (fun _ => 0))), (q4, .inl ((jcy Γ) 0, 6, .inl (fun _ => 0))), (q5, .inl ((jcy Γ) 0, 7, .inl (fun _ => 0))), (q6, .inl ((jcy Γ) 0, 7, .inl (fun _ => 0))), (q7, .inl ((jcy Γ) 0, 7, .inl (fun _ => 0))), (q8, .inl ((jcy Γ) 1, 6, .inr (.inl (fun _ => 0))))] 8 51 75 [(0, .ref h0)] [.ref q8, .ref h0] _
  refine c_put (ws' := [(h0, .inr (2, [.int 0, .int 0, .ref q1, .ref q2, .ref q3, .ref q4, .ref q5, .ref q6, .ref q7, .ref q8, .null])), (q1, .inl ((jcy Γ) 0, 6, .inl (fun _ => 0))), (q2, .inl ((jcy Γ) 0, 6, .inl (fun _ => 0))), (q3, .inl ((jcy Γ) 0, 6, .inl (fun _ => 0))), (q4, .inl ((jcy Γ) 0, 6, .inl (fun _ => 0))), (q5, .inl ((jcy Γ) 0, 7, .inl (fun _ => 0))), (q6, .inl ((jcy Γ) 0, 7, .inl (fun _ => 0))), (q7, .inl ((jcy Γ) 0, 7, .inl (fun _ => 0))), (q8, .inl ((jcy Γ) 1, 6, .inr (.inl (fun _ => 0))))]) (k0 := 9) 0 (pc' := 78) hC hin dX2_init_75 rfl cls2 (by decide) fi_X2_40.2.2.1 rfl rfl ⟨rfl, rfl⟩ rfl (Nat.le_of_ble_eq_true rfl) rfl ?_
  refine c_aload_n 0 (pc' := 79) hC dX2_init_78 rfl rfl ?_
  refine c_bipush (v := 6) (pc' := 81) hC dX2_init_79 rfl rfl ?_
  refine c_new0 (N := 6) (pc' := 83) hC dX2_init_81 rfl ac_int ⟨by decide, rfl, by decide⟩ ⟨Nat.le_of_ble_eq_true rfl, Nat.le_of_ble_eq_true rfl⟩ (fun q9 => ?_)
  show cJ Γ [(h0, .inr (2, [.int 0, .int 0, .ref q1, .ref q2, .ref q3, .ref q4, .ref q5, .ref q6, .ref q7, .ref q8, .null])), (q1, .inl ((jcy Γ) 0, 6, .inl (fun _ => 0))), (q2, .inl ((jcy Γ) 0, 6, .inl (fun _ => 0))), (q3, .inl ((jcy Γ) 0, 6, .inl (fun _ => 0))), (q4, .inl ((jcy Γ) 0, 6, .inl (fun _ => 0))), (q5, .inl ((jcy Γ) 0, 7, .inl (fun _ => 0))), (q6, .inl ((jcy Γ) 0, 7, .inl (fun _ => 0))), (q7, .inl ((jcy Γ) 0, 7, .inl (fun _ => 0))), (q8, .inl ((jcy Γ) 1, 6, .inr (.inl (fun _ => 0)))), (q9, .inl ((jcy Γ) 0, 6, .inl (fun _ => 0)))] 9 57 83 [(0, .ref h0)] [.ref q9, .ref h0] _
  refine c_put (ws' := [(h0, .inr (2, [.int 0, .int 0, .ref q1, .ref q2, .ref q3, .ref q4, .ref q5, .ref q6, .ref q7, .ref q8, .ref q9])), (q1, .inl ((jcy Γ) 0, 6, .inl (fun _ => 0))), (q2, .inl ((jcy Γ) 0, 6, .inl (fun _ => 0))), (q3, .inl ((jcy Γ) 0, 6, .inl (fun _ => 0))), (q4, .inl ((jcy Γ) 0, 6, .inl (fun _ => 0))), (q5, .inl ((jcy Γ) 0, 7, .inl (fun _ => 0))), (q6, .inl ((jcy Γ) 0, 7, .inl (fun _ => 0))), (q7, .inl ((jcy Γ) 0, 7, .inl (fun _ => 0))), (q8, .inl ((jcy Γ) 1, 6, .inr (.inl (fun _ => 0)))), (q9, .inl ((jcy Γ) 0, 6, .inl (fun _ => 0)))]) (k0 := 10) 0 (pc' := 86) hC hin dX2_init_83 rfl cls2 (by decide) fi_X2_44.2.2.1 rfl rfl ⟨rfl, rfl⟩ rfl (Nat.le_of_ble_eq_true rfl) rfl ?_
  exact c_vret (fun i => [q1, q2, q3, q4, q5, q6, q7, q8, q9].getD i 0) hC dX2_init_86 [0, 1, 2, 3, 4, 5, 6, 7, 8, 9] rfl rfl
set_option maxRecDepth 100000 in
set_option maxHeartbeats 4000000 in
theorem ct_X3 (l : Launch) (E : cE) (h0 : Nat) : cCt l yX3_init cX3_init 1 2 11 68 40 E [.ref h0] [(h0, .inr (3, [.null, .null, .int 0, .int 0]))] (w3 E.2.1 h0) := by
  refine cCt_of (own := RX3) (by decide) rfl rfl (Nat.le_of_ble_eq_true rfl) ?_
  intro Γ hC hin hE hl
  subst hE
  subst hl
  rw [cEcy]
  show cJ Γ [(h0, .inr (3, [.null, .null, .int 0, .int 0]))] 0 0 0 [(0, .ref h0)] [] _
  refine c_aload_n 0 (pc' := 1) hC dX3_init_0 rfl rfl ?_
  refine c_obj (pc' := 4) hC dX3_init_1 rfl ko_X3_3 ⟨Nat.le_of_ble_eq_true rfl, Nat.le_of_ble_eq_true rfl⟩ ?_
  refine c_aload_n 0 (pc' := 5) hC dX3_init_4 rfl rfl ?_
  refine c_new [.int 0, .int 0, .null, .null, .null, .null, .null, .null, .null, .null, .null] (pc' := 8) hC dX3_init_5 rfl cls2 kn_X3_9 df2 ⟨Nat.le_of_ble_eq_true rfl, Nat.le_of_ble_eq_true rfl⟩ (fun q1 => ?_)
  show cJ Γ [(h0, .inr (3, [.null, .null, .int 0, .int 0])), (q1, .inr (2, [.int 0, .int 0, .null, .null, .null, .null, .null, .null, .null, .null, .null]))] 1 11 8 [(0, .ref h0)] [.ref q1, .ref h0] _
  refine c_dup (pc' := 9) hC dX3_init_8 rfl rfl ?_
  have hm3 := ct_X2 (jlo Γ) (cEo Γ) q1
  rw [cEcy] at hm3
  refine c_callIN (wc := [(q1, .inr (2, [.int 0, .int 0, .null, .null, .null, .null, .null, .null, .null, .null, .null]))]) (wr := [(h0, .inr (3, [.null, .null, .int 0, .int 0]))]) (rest := [.ref q1, .ref h0]) [] [1] [0] (pc' := 12) hC dX3_init_9 rfl hm3 ki_X3_11 ⟨⟨Nat.le_of_ble_eq_true rfl, Nat.le_of_ble_eq_true rfl⟩, rfl, Nat.le_of_ble_eq_true rfl, Nat.le_of_ble_eq_true rfl, Nat.le_of_ble_eq_true rfl⟩ rfl rfl ⟨rfl, rfl, by decide⟩ rfl (fun u2 => ?_)
  show cJ Γ [(h0, .inr (3, [.null, .null, .int 0, .int 0])), (q1, .inr (2, [.int 0, .int 0, .ref (u2 0), .ref (u2 1), .ref (u2 2), .ref (u2 3), .ref (u2 4), .ref (u2 5), .ref (u2 6), .ref (u2 7), .ref (u2 8)])), ((u2 0), .inl ((jcy Γ) 0, 6, .inl (fun _ => 0))), ((u2 1), .inl ((jcy Γ) 0, 6, .inl (fun _ => 0))), ((u2 2), .inl ((jcy Γ) 0, 6, .inl (fun _ => 0))), ((u2 3), .inl ((jcy Γ) 0, 6, .inl (fun _ => 0))), ((u2 4), .inl ((jcy Γ) 0, 7, .inl (fun _ => 0))), ((u2 5), .inl ((jcy Γ) 0, 7, .inl (fun _ => 0))), ((u2 6), .inl ((jcy Γ) 0, 7, .inl (fun _ => 0))), ((u2 7), .inl ((jcy Γ) 1, 6, .inr (.inl (fun _ => 0)))), ((u2 8), .inl ((jcy Γ) 0, 6, .inl (fun _ => 0)))] 10 68 12 [(0, .ref h0)] [.ref q1, .ref h0] _
  refine c_put (ws' := [(h0, .inr (3, [.ref q1, .null, .int 0, .int 0])), (q1, .inr (2, [.int 0, .int 0, .ref (u2 0), .ref (u2 1), .ref (u2 2), .ref (u2 3), .ref (u2 4), .ref (u2 5), .ref (u2 6), .ref (u2 7), .ref (u2 8)])), ((u2 0), .inl ((jcy Γ) 0, 6, .inl (fun _ => 0))), ((u2 1), .inl ((jcy Γ) 0, 6, .inl (fun _ => 0))), ((u2 2), .inl ((jcy Γ) 0, 6, .inl (fun _ => 0))), ((u2 3), .inl ((jcy Γ) 0, 6, .inl (fun _ => 0))), ((u2 4), .inl ((jcy Γ) 0, 7, .inl (fun _ => 0))), ((u2 5), .inl ((jcy Γ) 0, 7, .inl (fun _ => 0))), ((u2 6), .inl ((jcy Γ) 0, 7, .inl (fun _ => 0))), ((u2 7), .inl ((jcy Γ) 1, 6, .inr (.inl (fun _ => 0)))), ((u2 8), .inl ((jcy Γ) 0, 6, .inl (fun _ => 0)))]) (k0 := 0) 0 (pc' := 15) hC hin dX3_init_12 rfl cls3 (by decide) fi_X3_12.2.2.1 rfl rfl ⟨rfl, rfl⟩ rfl (Nat.le_of_ble_eq_true rfl) rfl ?_
  refine c_aload_n 0 (pc' := 16) hC dX3_init_15 rfl rfl ?_
  refine c_iconst (v := 0) (pc' := 17) hC dX3_init_16 rfl rfl ?_
  refine c_new0 (N := 0) (pc' := 19) hC dX3_init_17 rfl ac_int ⟨by decide, rfl, by decide⟩ ⟨Nat.le_of_ble_eq_true rfl, Nat.le_of_ble_eq_true rfl⟩ (fun q4 => ?_)
  show cJ Γ [(h0, .inr (3, [.ref q1, .null, .int 0, .int 0])), (q1, .inr (2, [.int 0, .int 0, .ref (u2 0), .ref (u2 1), .ref (u2 2), .ref (u2 3), .ref (u2 4), .ref (u2 5), .ref (u2 6), .ref (u2 7), .ref (u2 8)])), ((u2 0), .inl ((jcy Γ) 0, 6, .inl (fun _ => 0))), ((u2 1), .inl ((jcy Γ) 0, 6, .inl (fun _ => 0))), ((u2 2), .inl ((jcy Γ) 0, 6, .inl (fun _ => 0))), ((u2 3), .inl ((jcy Γ) 0, 6, .inl (fun _ => 0))), ((u2 4), .inl ((jcy Γ) 0, 7, .inl (fun _ => 0))), ((u2 5), .inl ((jcy Γ) 0, 7, .inl (fun _ => 0))), ((u2 6), .inl ((jcy Γ) 0, 7, .inl (fun _ => 0))), ((u2 7), .inl ((jcy Γ) 1, 6, .inr (.inl (fun _ => 0)))), ((u2 8), .inl ((jcy Γ) 0, 6, .inl (fun _ => 0))), (q4, .inl ((jcy Γ) 0, 0, .inl (fun _ => 0)))] 11 68 19 [(0, .ref h0)] [.ref q4, .ref h0] _
  refine c_put (ws' := [(h0, .inr (3, [.ref q1, .ref q4, .int 0, .int 0])), (q1, .inr (2, [.int 0, .int 0, .ref (u2 0), .ref (u2 1), .ref (u2 2), .ref (u2 3), .ref (u2 4), .ref (u2 5), .ref (u2 6), .ref (u2 7), .ref (u2 8)])), ((u2 0), .inl ((jcy Γ) 0, 6, .inl (fun _ => 0))), ((u2 1), .inl ((jcy Γ) 0, 6, .inl (fun _ => 0))), ((u2 2), .inl ((jcy Γ) 0, 6, .inl (fun _ => 0))), ((u2 3), .inl ((jcy Γ) 0, 6, .inl (fun _ => 0))), ((u2 4), .inl ((jcy Γ) 0, 7, .inl (fun _ => 0))), ((u2 5), .inl ((jcy Γ) 0, 7, .inl (fun _ => 0))), ((u2 6), .inl ((jcy Γ) 0, 7, .inl (fun _ => 0))), ((u2 7), .inl ((jcy Γ) 1, 6, .inr (.inl (fun _ => 0)))), ((u2 8), .inl ((jcy Γ) 0, 6, .inl (fun _ => 0))), (q4, .inl ((jcy Γ) 0, 0, .inl (fun _ => 0)))]) (k0 := 1) 0 (pc' := 22) hC hin dX3_init_19 rfl cls3 (by decide) fi_X3_18.2.2.1 rfl rfl ⟨rfl, rfl⟩ rfl (Nat.le_of_ble_eq_true rfl) rfl ?_
  refine c_aload_n 0 (pc' := 23) hC dX3_init_22 rfl rfl ?_
  refine c_iconst (v := 0) (pc' := 24) hC dX3_init_23 rfl rfl ?_
  refine c_put (ws' := [(h0, .inr (3, [.ref q1, .ref q4, .int 0, .int 0])), (q1, .inr (2, [.int 0, .int 0, .ref (u2 0), .ref (u2 1), .ref (u2 2), .ref (u2 3), .ref (u2 4), .ref (u2 5), .ref (u2 6), .ref (u2 7), .ref (u2 8)])), ((u2 0), .inl ((jcy Γ) 0, 6, .inl (fun _ => 0))), ((u2 1), .inl ((jcy Γ) 0, 6, .inl (fun _ => 0))), ((u2 2), .inl ((jcy Γ) 0, 6, .inl (fun _ => 0))), ((u2 3), .inl ((jcy Γ) 0, 6, .inl (fun _ => 0))), ((u2 4), .inl ((jcy Γ) 0, 7, .inl (fun _ => 0))), ((u2 5), .inl ((jcy Γ) 0, 7, .inl (fun _ => 0))), ((u2 6), .inl ((jcy Γ) 0, 7, .inl (fun _ => 0))), ((u2 7), .inl ((jcy Γ) 1, 6, .inr (.inl (fun _ => 0)))), ((u2 8), .inl ((jcy Γ) 0, 6, .inl (fun _ => 0))), (q4, .inl ((jcy Γ) 0, 0, .inl (fun _ => 0)))]) (k0 := 2) 0 (pc' := 27) hC hin dX3_init_24 rfl cls3 (by decide) fi_X3_22.2.2.1 rfl rfl ⟨rfl, rfl⟩ rfl (Nat.le_of_ble_eq_true rfl) rfl ?_
  refine c_aload_n 0 (pc' := 28) hC dX3_init_27 rfl rfl ?_
  refine c_iconst (v := 0) (pc' := 29) hC dX3_init_28 rfl rfl ?_
  refine c_put (ws' := [(h0, .inr (3, [.ref q1, .ref q4, .int 0, .int 0])), (q1, .inr (2, [.int 0, .int 0, .ref (u2 0), .ref (u2 1), .ref (u2 2), .ref (u2 3), .ref (u2 4), .ref (u2 5), .ref (u2 6), .ref (u2 7), .ref (u2 8)])), ((u2 0), .inl ((jcy Γ) 0, 6, .inl (fun _ => 0))), ((u2 1), .inl ((jcy Γ) 0, 6, .inl (fun _ => 0))), ((u2 2), .inl ((jcy Γ) 0, 6, .inl (fun _ => 0))), ((u2 3), .inl ((jcy Γ) 0, 6, .inl (fun _ => 0))), ((u2 4), .inl ((jcy Γ) 0, 7, .inl (fun _ => 0))), ((u2 5), .inl ((jcy Γ) 0, 7, .inl (fun _ => 0))), ((u2 6), .inl ((jcy Γ) 0, 7, .inl (fun _ => 0))), ((u2 7), .inl ((jcy Γ) 1, 6, .inr (.inl (fun _ => 0)))), ((u2 8), .inl ((jcy Γ) 0, 6, .inl (fun _ => 0))), (q4, .inl ((jcy Γ) 0, 0, .inl (fun _ => 0)))]) (k0 := 3) 0 (pc' := 32) hC hin dX3_init_29 rfl cls3 (by decide) fi_X3_26.2.2.1 rfl rfl ⟨rfl, rfl⟩ rfl (Nat.le_of_ble_eq_true rfl) rfl ?_
  exact c_vret (fun i => match i with | 0 => q1 | 10 => q4 | i + 1 => u2 i) hC dX3_init_32 [0, 1, 2, 3, 4, 5, 6, 7, 8, 9, 10, 11] rfl rfl
set_option maxRecDepth 100000 in
set_option maxHeartbeats 4000000 in
theorem ct_X0 (l : Launch) (E : cE) (h0 pl : Nat) : cCt l yX0_init cX0_init 2 1 5 130 30 E [.ref h0, .ref pl] [(h0, .inr (0, [.null, .null, .null, .null, .null, .null, .int 0, .int 0, .int 0, .int 0, .int 0, .int 0]))] (w0 E.2.1 h0 pl) := by
  refine cCt_of (own := RX0) (by decide) rfl rfl (Nat.le_of_ble_eq_true rfl) ?_
  intro Γ hC hin hE hl
  subst hE
  subst hl
  rw [cEcy]
  show cJ Γ [(h0, .inr (0, [.null, .null, .null, .null, .null, .null, .int 0, .int 0, .int 0, .int 0, .int 0, .int 0]))] 0 0 0 [(0, .ref h0), (1, .ref pl)] [] _
  refine c_aload_n 0 (pc' := 1) hC dX0_init_0 rfl rfl ?_
  refine c_obj (pc' := 4) hC dX0_init_1 rfl ko_X0_3 ⟨Nat.le_of_ble_eq_true rfl, Nat.le_of_ble_eq_true rfl⟩ ?_
  refine c_aload_n 0 (pc' := 5) hC dX0_init_4 rfl rfl ?_
  refine c_iconst (v := 3) (pc' := 6) hC dX0_init_5 rfl rfl ?_
  refine c_new0 (N := 3) (pc' := 8) hC dX0_init_6 rfl ac_int ⟨by decide, rfl, by decide⟩ ⟨Nat.le_of_ble_eq_true rfl, Nat.le_of_ble_eq_true rfl⟩ (fun q1 => ?_)
  show cJ Γ [(h0, .inr (0, [.null, .null, .null, .null, .null, .null, .int 0, .int 0, .int 0, .int 0, .int 0, .int 0])), (q1, .inl ((jcy Γ) 0, 3, .inl (fun _ => 0)))] 1 3 8 [(0, .ref h0), (1, .ref pl)] [.ref q1, .ref h0] _
  refine c_put (ws' := [(h0, .inr (0, [.null, .ref q1, .null, .null, .null, .null, .int 0, .int 0, .int 0, .int 0, .int 0, .int 0])), (q1, .inl ((jcy Γ) 0, 3, .inl (fun _ => 0)))]) (k0 := 1) 0 (pc' := 11) hC hin dX0_init_8 rfl cls0 (by decide) fi_X0_9.2.2.1 rfl rfl ⟨rfl, rfl⟩ rfl (Nat.le_of_ble_eq_true rfl) rfl ?_
  refine c_aload_n 0 (pc' := 12) hC dX0_init_11 rfl rfl ?_
  refine c_bipush (v := 40) (pc' := 14) hC dX0_init_12 rfl rfl ?_
  refine c_new0 (N := 40) (pc' := 16) hC dX0_init_14 rfl ac_int ⟨by decide, rfl, by decide⟩ ⟨Nat.le_of_ble_eq_true rfl, Nat.le_of_ble_eq_true rfl⟩ (fun q2 => ?_)
  show cJ Γ [(h0, .inr (0, [.null, .ref q1, .null, .null, .null, .null, .int 0, .int 0, .int 0, .int 0, .int 0, .int 0])), (q1, .inl ((jcy Γ) 0, 3, .inl (fun _ => 0))), (q2, .inl ((jcy Γ) 0, 40, .inl (fun _ => 0)))] 2 43 16 [(0, .ref h0), (1, .ref pl)] [.ref q2, .ref h0] _
  refine c_put (ws' := [(h0, .inr (0, [.null, .ref q1, .ref q2, .null, .null, .null, .int 0, .int 0, .int 0, .int 0, .int 0, .int 0])), (q1, .inl ((jcy Γ) 0, 3, .inl (fun _ => 0))), (q2, .inl ((jcy Γ) 0, 40, .inl (fun _ => 0)))]) (k0 := 2) 0 (pc' := 19) hC hin dX0_init_16 rfl cls0 (by decide) fi_X0_15.2.2.1 rfl rfl ⟨rfl, rfl⟩ rfl (Nat.le_of_ble_eq_true rfl) rfl ?_
  refine c_aload_n 0 (pc' := 20) hC dX0_init_19 rfl rfl ?_
  refine c_bipush (v := 40) (pc' := 22) hC dX0_init_20 rfl rfl ?_
  refine c_new0 (N := 40) (pc' := 24) hC dX0_init_22 rfl ac_int ⟨by decide, rfl, by decide⟩ ⟨Nat.le_of_ble_eq_true rfl, Nat.le_of_ble_eq_true rfl⟩ (fun q3 => ?_)
  show cJ Γ [(h0, .inr (0, [.null, .ref q1, .ref q2, .null, .null, .null, .int 0, .int 0, .int 0, .int 0, .int 0, .int 0])), (q1, .inl ((jcy Γ) 0, 3, .inl (fun _ => 0))), (q2, .inl ((jcy Γ) 0, 40, .inl (fun _ => 0))), (q3, .inl ((jcy Γ) 0, 40, .inl (fun _ => 0)))] 3 83 24 [(0, .ref h0), (1, .ref pl)] [.ref q3, .ref h0] _
  refine c_put (ws' := [(h0, .inr (0, [.null, .ref q1, .ref q2, .ref q3, .null, .null, .int 0, .int 0, .int 0, .int 0, .int 0, .int 0])), (q1, .inl ((jcy Γ) 0, 3, .inl (fun _ => 0))), (q2, .inl ((jcy Γ) 0, 40, .inl (fun _ => 0))), (q3, .inl ((jcy Γ) 0, 40, .inl (fun _ => 0)))]) (k0 := 3) 0 (pc' := 27) hC hin dX0_init_24 rfl cls0 (by decide) fi_X0_18.2.2.1 rfl rfl ⟨rfl, rfl⟩ rfl (Nat.le_of_ble_eq_true rfl) rfl ?_
  refine c_aload_n 0 (pc' := 28) hC dX0_init_27 rfl rfl ?_
  refine c_bipush (v := 40) (pc' := 30) hC dX0_init_28 rfl rfl ?_
  refine c_new0 (N := 40) (pc' := 32) hC dX0_init_30 rfl ac_int ⟨by decide, rfl, by decide⟩ ⟨Nat.le_of_ble_eq_true rfl, Nat.le_of_ble_eq_true rfl⟩ (fun q4 => ?_)
  show cJ Γ [(h0, .inr (0, [.null, .ref q1, .ref q2, .ref q3, .null, .null, .int 0, .int 0, .int 0, .int 0, .int 0, .int 0])), (q1, .inl ((jcy Γ) 0, 3, .inl (fun _ => 0))), (q2, .inl ((jcy Γ) 0, 40, .inl (fun _ => 0))), (q3, .inl ((jcy Γ) 0, 40, .inl (fun _ => 0))), (q4, .inl ((jcy Γ) 0, 40, .inl (fun _ => 0)))] 4 123 32 [(0, .ref h0), (1, .ref pl)] [.ref q4, .ref h0] _
  refine c_put (ws' := [(h0, .inr (0, [.null, .ref q1, .ref q2, .ref q3, .ref q4, .null, .int 0, .int 0, .int 0, .int 0, .int 0, .int 0])), (q1, .inl ((jcy Γ) 0, 3, .inl (fun _ => 0))), (q2, .inl ((jcy Γ) 0, 40, .inl (fun _ => 0))), (q3, .inl ((jcy Γ) 0, 40, .inl (fun _ => 0))), (q4, .inl ((jcy Γ) 0, 40, .inl (fun _ => 0)))]) (k0 := 4) 0 (pc' := 35) hC hin dX0_init_32 rfl cls0 (by decide) fi_X0_21.2.2.1 rfl rfl ⟨rfl, rfl⟩ rfl (Nat.le_of_ble_eq_true rfl) rfl ?_
  refine c_aload_n 0 (pc' := 36) hC dX0_init_35 rfl rfl ?_
  refine c_bipush (v := 7) (pc' := 38) hC dX0_init_36 rfl rfl ?_
  refine c_new0 (N := 7) (pc' := 40) hC dX0_init_38 rfl ac_int ⟨by decide, rfl, by decide⟩ ⟨Nat.le_of_ble_eq_true rfl, Nat.le_of_ble_eq_true rfl⟩ (fun q5 => ?_)
  show cJ Γ [(h0, .inr (0, [.null, .ref q1, .ref q2, .ref q3, .ref q4, .null, .int 0, .int 0, .int 0, .int 0, .int 0, .int 0])), (q1, .inl ((jcy Γ) 0, 3, .inl (fun _ => 0))), (q2, .inl ((jcy Γ) 0, 40, .inl (fun _ => 0))), (q3, .inl ((jcy Γ) 0, 40, .inl (fun _ => 0))), (q4, .inl ((jcy Γ) 0, 40, .inl (fun _ => 0))), (q5, .inl ((jcy Γ) 0, 7, .inl (fun _ => 0)))] 5 130 40 [(0, .ref h0), (1, .ref pl)] [.ref q5, .ref h0] _
  refine c_put (ws' := [(h0, .inr (0, [.null, .ref q1, .ref q2, .ref q3, .ref q4, .ref q5, .int 0, .int 0, .int 0, .int 0, .int 0, .int 0])), (q1, .inl ((jcy Γ) 0, 3, .inl (fun _ => 0))), (q2, .inl ((jcy Γ) 0, 40, .inl (fun _ => 0))), (q3, .inl ((jcy Γ) 0, 40, .inl (fun _ => 0))), (q4, .inl ((jcy Γ) 0, 40, .inl (fun _ => 0))), (q5, .inl ((jcy Γ) 0, 7, .inl (fun _ => 0)))]) (k0 := 5) 0 (pc' := 43) hC hin dX0_init_40 rfl cls0 (by decide) fi_X0_24.2.2.1 rfl rfl ⟨rfl, rfl⟩ rfl (Nat.le_of_ble_eq_true rfl) rfl ?_
  refine c_aload_n 0 (pc' := 44) hC dX0_init_43 rfl rfl ?_
  refine c_iconst (v := 0) (pc' := 45) hC dX0_init_44 rfl rfl ?_
  refine c_put (ws' := [(h0, .inr (0, [.null, .ref q1, .ref q2, .ref q3, .ref q4, .ref q5, .int 0, .int 0, .int 0, .int 0, .int 0, .int 0])), (q1, .inl ((jcy Γ) 0, 3, .inl (fun _ => 0))), (q2, .inl ((jcy Γ) 0, 40, .inl (fun _ => 0))), (q3, .inl ((jcy Γ) 0, 40, .inl (fun _ => 0))), (q4, .inl ((jcy Γ) 0, 40, .inl (fun _ => 0))), (q5, .inl ((jcy Γ) 0, 7, .inl (fun _ => 0)))]) (k0 := 6) 0 (pc' := 48) hC hin dX0_init_45 rfl cls0 (by decide) fi_X0_27.2.2.1 rfl rfl ⟨rfl, rfl⟩ rfl (Nat.le_of_ble_eq_true rfl) rfl ?_
  refine c_aload_n 0 (pc' := 49) hC dX0_init_48 rfl rfl ?_
  refine c_iconst (v := 0) (pc' := 50) hC dX0_init_49 rfl rfl ?_
  refine c_put (ws' := [(h0, .inr (0, [.null, .ref q1, .ref q2, .ref q3, .ref q4, .ref q5, .int 0, .int 0, .int 0, .int 0, .int 0, .int 0])), (q1, .inl ((jcy Γ) 0, 3, .inl (fun _ => 0))), (q2, .inl ((jcy Γ) 0, 40, .inl (fun _ => 0))), (q3, .inl ((jcy Γ) 0, 40, .inl (fun _ => 0))), (q4, .inl ((jcy Γ) 0, 40, .inl (fun _ => 0))), (q5, .inl ((jcy Γ) 0, 7, .inl (fun _ => 0)))]) (k0 := 7) 0 (pc' := 53) hC hin dX0_init_50 rfl cls0 (by decide) fi_X0_31.2.2.1 rfl rfl ⟨rfl, rfl⟩ rfl (Nat.le_of_ble_eq_true rfl) rfl ?_
  refine c_aload_n 0 (pc' := 54) hC dX0_init_53 rfl rfl ?_
  refine c_iconst (v := 0) (pc' := 55) hC dX0_init_54 rfl rfl ?_
  refine c_put (ws' := [(h0, .inr (0, [.null, .ref q1, .ref q2, .ref q3, .ref q4, .ref q5, .int 0, .int 0, .int 0, .int 0, .int 0, .int 0])), (q1, .inl ((jcy Γ) 0, 3, .inl (fun _ => 0))), (q2, .inl ((jcy Γ) 0, 40, .inl (fun _ => 0))), (q3, .inl ((jcy Γ) 0, 40, .inl (fun _ => 0))), (q4, .inl ((jcy Γ) 0, 40, .inl (fun _ => 0))), (q5, .inl ((jcy Γ) 0, 7, .inl (fun _ => 0)))]) (k0 := 8) 0 (pc' := 58) hC hin dX0_init_55 rfl cls0 (by decide) fi_X0_34.2.2.1 rfl rfl ⟨rfl, rfl⟩ rfl (Nat.le_of_ble_eq_true rfl) rfl ?_
  refine c_aload_n 0 (pc' := 59) hC dX0_init_58 rfl rfl ?_
  refine c_iconst (v := 0) (pc' := 60) hC dX0_init_59 rfl rfl ?_
  refine c_put (ws' := [(h0, .inr (0, [.null, .ref q1, .ref q2, .ref q3, .ref q4, .ref q5, .int 0, .int 0, .int 0, .int 0, .int 0, .int 0])), (q1, .inl ((jcy Γ) 0, 3, .inl (fun _ => 0))), (q2, .inl ((jcy Γ) 0, 40, .inl (fun _ => 0))), (q3, .inl ((jcy Γ) 0, 40, .inl (fun _ => 0))), (q4, .inl ((jcy Γ) 0, 40, .inl (fun _ => 0))), (q5, .inl ((jcy Γ) 0, 7, .inl (fun _ => 0)))]) (k0 := 9) 0 (pc' := 63) hC hin dX0_init_60 rfl cls0 (by decide) fi_X0_37.2.2.1 rfl rfl ⟨rfl, rfl⟩ rfl (Nat.le_of_ble_eq_true rfl) rfl ?_
  refine c_aload_n 0 (pc' := 64) hC dX0_init_63 rfl rfl ?_
  refine c_iconst (v := 0) (pc' := 65) hC dX0_init_64 rfl rfl ?_
  refine c_put (ws' := [(h0, .inr (0, [.null, .ref q1, .ref q2, .ref q3, .ref q4, .ref q5, .int 0, .int 0, .int 0, .int 0, .int 0, .int 0])), (q1, .inl ((jcy Γ) 0, 3, .inl (fun _ => 0))), (q2, .inl ((jcy Γ) 0, 40, .inl (fun _ => 0))), (q3, .inl ((jcy Γ) 0, 40, .inl (fun _ => 0))), (q4, .inl ((jcy Γ) 0, 40, .inl (fun _ => 0))), (q5, .inl ((jcy Γ) 0, 7, .inl (fun _ => 0)))]) (k0 := 10) 0 (pc' := 68) hC hin dX0_init_65 rfl cls0 (by decide) fi_X0_40.2.2.1 rfl rfl ⟨rfl, rfl⟩ rfl (Nat.le_of_ble_eq_true rfl) rfl ?_
  refine c_aload_n 0 (pc' := 69) hC dX0_init_68 rfl rfl ?_
  refine c_iconst (v := 0) (pc' := 70) hC dX0_init_69 rfl rfl ?_
  refine c_put (ws' := [(h0, .inr (0, [.null, .ref q1, .ref q2, .ref q3, .ref q4, .ref q5, .int 0, .int 0, .int 0, .int 0, .int 0, .int 0])), (q1, .inl ((jcy Γ) 0, 3, .inl (fun _ => 0))), (q2, .inl ((jcy Γ) 0, 40, .inl (fun _ => 0))), (q3, .inl ((jcy Γ) 0, 40, .inl (fun _ => 0))), (q4, .inl ((jcy Γ) 0, 40, .inl (fun _ => 0))), (q5, .inl ((jcy Γ) 0, 7, .inl (fun _ => 0)))]) (k0 := 11) 0 (pc' := 73) hC hin dX0_init_70 rfl cls0 (by decide) fi_X0_43.2.2.1 rfl rfl ⟨rfl, rfl⟩ rfl (Nat.le_of_ble_eq_true rfl) rfl ?_
  refine c_aload_n 0 (pc' := 74) hC dX0_init_73 rfl rfl ?_
  refine c_aload_n 1 (pc' := 75) hC dX0_init_74 rfl rfl ?_
  refine c_put (ws' := [(h0, .inr (0, [.ref pl, .ref q1, .ref q2, .ref q3, .ref q4, .ref q5, .int 0, .int 0, .int 0, .int 0, .int 0, .int 0])), (q1, .inl ((jcy Γ) 0, 3, .inl (fun _ => 0))), (q2, .inl ((jcy Γ) 0, 40, .inl (fun _ => 0))), (q3, .inl ((jcy Γ) 0, 40, .inl (fun _ => 0))), (q4, .inl ((jcy Γ) 0, 40, .inl (fun _ => 0))), (q5, .inl ((jcy Γ) 0, 7, .inl (fun _ => 0)))]) (k0 := 0) 0 (pc' := 78) hC hin dX0_init_75 rfl cls0 (by decide) fi_X0_46.2.2.1 rfl rfl ⟨rfl, rfl⟩ rfl (Nat.le_of_ble_eq_true rfl) rfl ?_
  refine c_gets 0 (pc' := 81) hC dX0_init_78 rfl (by decide) (by decide +kernel) ?_
  refine c_iconst (v := 0) (pc' := 82) hC dX0_init_81 rfl rfl ?_
  refine c_aload_n 0 (pc' := 83) hC dX0_init_82 rfl rfl ?_
  refine c_get (k0 := 1) 0 (pc' := 86) hC dX0_init_83 rfl cls0 (by decide) fi_X0_9.2.2.1 rfl rfl ?_
  refine c_iconst (v := 0) (pc' := 87) hC dX0_init_86 rfl rfl ?_
  refine c_iconst (v := 3) (pc' := 88) hC dX0_init_87 rfl rfl ?_
  refine c_scopy (ws' := [(h0, .inr (0, [.ref pl, .ref q1, .ref q2, .ref q3, .ref q4, .ref q5, .int 0, .int 0, .int 0, .int 0, .int 0, .int 0])), (q1, .inl ((jcy Γ) 0, 3, .inl (va_cpy (fun q => (jsI 0).getD q 0) (fun _ => 0) 0 0 3))), (q2, .inl ((jcy Γ) 0, 40, .inl (fun _ => 0))), (q3, .inl ((jcy Γ) 0, 40, .inl (fun _ => 0))), (q4, .inl ((jcy Γ) 0, 40, .inl (fun _ => 0))), (q5, .inl ((jcy Γ) 0, 7, .inl (fun _ => 0)))]) (N := 3) 0 1 (pc' := 91) hC dX0_init_88 rfl ca_X0_53 rfl (by decide) ⟨by decide, rfl, by decide, by decide⟩ ⟨Nat.le_of_ble_eq_true rfl, Nat.le_of_ble_eq_true rfl⟩ rfl ?_
  refine c_aload_n 0 (pc' := 92) hC dX0_init_91 rfl rfl ?_
  refine c_get (k0 := 5) 0 (pc' := 95) hC dX0_init_92 rfl cls0 (by decide) fi_X0_24.2.2.1 rfl rfl ?_
  refine c_bipush (v := -9) (pc' := 97) hC dX0_init_95 rfl rfl ?_
  refine c_fill (ws' := [(h0, .inr (0, [.ref pl, .ref q1, .ref q2, .ref q3, .ref q4, .ref q5, .int 0, .int 0, .int 0, .int 0, .int 0, .int 0])), (q1, .inl ((jcy Γ) 0, 3, .inl (va_cpy (fun q => (jsI 0).getD q 0) (fun _ => 0) 0 0 3))), (q2, .inl ((jcy Γ) 0, 40, .inl (fun _ => 0))), (q3, .inl ((jcy Γ) 0, 40, .inl (fun _ => 0))), (q4, .inl ((jcy Γ) 0, 40, .inl (fun _ => 0))), (q5, .inl ((jcy Γ) 0, 7, .inl (fun k => if k < 7 then -9 else 0)))]) (N := 7) 5 (pc' := 100) hC dX0_init_97 rfl (by decide) cs_X0_59 rfl ⟨⟨Nat.le_of_ble_eq_true rfl, Nat.le_of_ble_eq_true rfl⟩, Nat.le_of_ble_eq_true rfl, Nat.le_of_ble_eq_true rfl, Nat.le_of_ble_eq_true rfl⟩ rfl ?_
  exact c_vret (fun i => [q1, q2, q3, q4, q5].getD i 0) hC dX0_init_100 [0, 1, 2, 3, 4, 5] rfl rfl
set_option maxRecDepth 100000 in
set_option maxHeartbeats 4000000 in
theorem ct_X1 (l : Launch) (E : cE) (h0 pl : Nat) : cCt l yX1_init cX1_init 2 1 2 768 20 E [.ref h0, .ref pl] [(h0, .inr (1, [.null, .null, .null, .int 0, .int 0, .int 0, .int 0]))] (w1 E.2.1 h0 pl) := by
  refine cCt_of (own := RX1) (by decide) rfl rfl (Nat.le_of_ble_eq_true rfl) ?_
  intro Γ hC hin hE hl
  subst hE
  subst hl
  rw [cEcy]
  show cJ Γ [(h0, .inr (1, [.null, .null, .null, .int 0, .int 0, .int 0, .int 0]))] 0 0 0 [(0, .ref h0), (1, .ref pl)] [] _
  refine c_aload_n 0 (pc' := 1) hC dX1_init_0 rfl rfl ?_
  refine c_obj (pc' := 4) hC dX1_init_1 rfl ko_X1_3 ⟨Nat.le_of_ble_eq_true rfl, Nat.le_of_ble_eq_true rfl⟩ ?_
  refine c_aload_n 0 (pc' := 5) hC dX1_init_4 rfl rfl ?_
  refine c_sipush (v := 384) (pc' := 8) hC dX1_init_5 rfl rfl ?_
  refine c_new1 (N := 384) (pc' := 10) hC dX1_init_8 rfl ac_long ⟨by decide, rfl, by decide⟩ ⟨Nat.le_of_ble_eq_true rfl, Nat.le_of_ble_eq_true rfl⟩ (fun q1 => ?_)
  show cJ Γ [(h0, .inr (1, [.null, .null, .null, .int 0, .int 0, .int 0, .int 0])), (q1, .inl ((jcy Γ) 1, 384, .inr (.inl (fun _ => 0))))] 1 384 10 [(0, .ref h0), (1, .ref pl)] [.ref q1, .ref h0] _
  refine c_put (ws' := [(h0, .inr (1, [.null, .ref q1, .null, .int 0, .int 0, .int 0, .int 0])), (q1, .inl ((jcy Γ) 1, 384, .inr (.inl (fun _ => 0))))]) (k0 := 1) 0 (pc' := 13) hC hin dX1_init_10 rfl cls1 (by decide) fi_X1_9.2.2.1 rfl rfl ⟨rfl, rfl⟩ rfl (Nat.le_of_ble_eq_true rfl) rfl ?_
  refine c_aload_n 0 (pc' := 14) hC dX1_init_13 rfl rfl ?_
  refine c_sipush (v := 384) (pc' := 17) hC dX1_init_14 rfl rfl ?_
  refine c_new1 (N := 384) (pc' := 19) hC dX1_init_17 rfl ac_long ⟨by decide, rfl, by decide⟩ ⟨Nat.le_of_ble_eq_true rfl, Nat.le_of_ble_eq_true rfl⟩ (fun q2 => ?_)
  show cJ Γ [(h0, .inr (1, [.null, .ref q1, .null, .int 0, .int 0, .int 0, .int 0])), (q1, .inl ((jcy Γ) 1, 384, .inr (.inl (fun _ => 0)))), (q2, .inl ((jcy Γ) 1, 384, .inr (.inl (fun _ => 0))))] 2 768 19 [(0, .ref h0), (1, .ref pl)] [.ref q2, .ref h0] _
  refine c_put (ws' := [(h0, .inr (1, [.null, .ref q1, .ref q2, .int 0, .int 0, .int 0, .int 0])), (q1, .inl ((jcy Γ) 1, 384, .inr (.inl (fun _ => 0)))), (q2, .inl ((jcy Γ) 1, 384, .inr (.inl (fun _ => 0))))]) (k0 := 2) 0 (pc' := 22) hC hin dX1_init_19 rfl cls1 (by decide) fi_X1_15.2.2.1 rfl rfl ⟨rfl, rfl⟩ rfl (Nat.le_of_ble_eq_true rfl) rfl ?_
  refine c_aload_n 0 (pc' := 23) hC dX1_init_22 rfl rfl ?_
  refine c_iconst (v := 0) (pc' := 24) hC dX1_init_23 rfl rfl ?_
  refine c_put (ws' := [(h0, .inr (1, [.null, .ref q1, .ref q2, .int 0, .int 0, .int 0, .int 0])), (q1, .inl ((jcy Γ) 1, 384, .inr (.inl (fun _ => 0)))), (q2, .inl ((jcy Γ) 1, 384, .inr (.inl (fun _ => 0))))]) (k0 := 3) 0 (pc' := 27) hC hin dX1_init_24 rfl cls1 (by decide) fi_X1_18.2.2.1 rfl rfl ⟨rfl, rfl⟩ rfl (Nat.le_of_ble_eq_true rfl) rfl ?_
  refine c_aload_n 0 (pc' := 28) hC dX1_init_27 rfl rfl ?_
  refine c_iconst (v := 0) (pc' := 29) hC dX1_init_28 rfl rfl ?_
  refine c_put (ws' := [(h0, .inr (1, [.null, .ref q1, .ref q2, .int 0, .int 0, .int 0, .int 0])), (q1, .inl ((jcy Γ) 1, 384, .inr (.inl (fun _ => 0)))), (q2, .inl ((jcy Γ) 1, 384, .inr (.inl (fun _ => 0))))]) (k0 := 4) 0 (pc' := 32) hC hin dX1_init_29 rfl cls1 (by decide) fi_X1_22.2.2.1 rfl rfl ⟨rfl, rfl⟩ rfl (Nat.le_of_ble_eq_true rfl) rfl ?_
  refine c_aload_n 0 (pc' := 33) hC dX1_init_32 rfl rfl ?_
  refine c_iconst (v := 0) (pc' := 34) hC dX1_init_33 rfl rfl ?_
  refine c_put (ws' := [(h0, .inr (1, [.null, .ref q1, .ref q2, .int 0, .int 0, .int 0, .int 0])), (q1, .inl ((jcy Γ) 1, 384, .inr (.inl (fun _ => 0)))), (q2, .inl ((jcy Γ) 1, 384, .inr (.inl (fun _ => 0))))]) (k0 := 5) 0 (pc' := 37) hC hin dX1_init_34 rfl cls1 (by decide) fi_X1_25.2.2.1 rfl rfl ⟨rfl, rfl⟩ rfl (Nat.le_of_ble_eq_true rfl) rfl ?_
  refine c_aload_n 0 (pc' := 38) hC dX1_init_37 rfl rfl ?_
  refine c_iconst (v := 0) (pc' := 39) hC dX1_init_38 rfl rfl ?_
  refine c_put (ws' := [(h0, .inr (1, [.null, .ref q1, .ref q2, .int 0, .int 0, .int 0, .int 0])), (q1, .inl ((jcy Γ) 1, 384, .inr (.inl (fun _ => 0)))), (q2, .inl ((jcy Γ) 1, 384, .inr (.inl (fun _ => 0))))]) (k0 := 6) 0 (pc' := 42) hC hin dX1_init_39 rfl cls1 (by decide) fi_X1_28.2.2.1 rfl rfl ⟨rfl, rfl⟩ rfl (Nat.le_of_ble_eq_true rfl) rfl ?_
  refine c_aload_n 0 (pc' := 43) hC dX1_init_42 rfl rfl ?_
  refine c_aload_n 1 (pc' := 44) hC dX1_init_43 rfl rfl ?_
  refine c_put (ws' := [(h0, .inr (1, [.ref pl, .ref q1, .ref q2, .int 0, .int 0, .int 0, .int 0])), (q1, .inl ((jcy Γ) 1, 384, .inr (.inl (fun _ => 0)))), (q2, .inl ((jcy Γ) 1, 384, .inr (.inl (fun _ => 0))))]) (k0 := 0) 0 (pc' := 47) hC hin dX1_init_44 rfl cls1 (by decide) fi_X1_31.2.2.1 rfl rfl ⟨rfl, rfl⟩ rfl (Nat.le_of_ble_eq_true rfl) rfl ?_
  exact c_vret (fun i => [q1, q2].getD i 0) hC dX1_init_47 [0, 1, 2] rfl rfl
def f_X6_init_L191_b (rec : Int32 → jM → Option (Int32 × jM)) (x1 : Int32) (M : jM) : Option (Int32 × jM) := (if (6 : Int32) ≤ x1 then (some (x1, M)) else (jg (jin x1 6) (jlet (si M 1 x1.toNatClampNeg (-1 : Int32)) fun M3 => (jlet (x1 + (1 : Int32)) fun v4 => (rec v4 M3)))))
def f_X6_init_L191 : Nat → Int32 → jM → Option (Int32 × jM)
  | 0 => fun _ _ => none
  | n + 1 => f_X6_init_L191_b (f_X6_init_L191 n)
def f_X6_init_L212_b (rec : Int32 → jM → Option (Int32 × jM)) (x1 : Int32) (M : jM) : Option (Int32 × jM) := (if (4 : Int32) ≤ x1 then (some (x1, M)) else (jg (jin x1 4) (jlet (si M 3 x1.toNatClampNeg (-1 : Int32)) fun M3 => (jlet (x1 + (1 : Int32)) fun v4 => (rec v4 M3)))))
def f_X6_init_L212 : Nat → Int32 → jM → Option (Int32 × jM)
  | 0 => fun _ _ => none
  | n + 1 => f_X6_init_L212_b (f_X6_init_L212 n)
def f_X6_initT (M : jM) : Option jM := (jb2 (f_X6_init_L191 jfu (0 : Int32) M) fun v1 M2 => (jb2 (f_X6_init_L212 jfu (0 : Int32) M2) fun v4 M5 => (jb1 (f_X6_newRoutes M5) fun M7 => (some M7))))
theorem lp_X6_init_L191_b {Γ : jG} (hC : jOK Γ cX6_init 2 RX6 (none) { frames := 1, cells := 22, slots := 51960, locals := 20 }) {Q : State → Prop} (rec : Int32 → jM → Option (Int32 × jM)) (ih : ∀ (x1 : Int32) (M : jM) (e1 : Int32) (Me : jM), rec x1 M = some (e1, Me) → jJ Γ GM RM 210 [(0, .ref (jad Γ 0)), (1, .int e1)] [] Me Q → jJ Γ GM RM 191 [(0, .ref (jad Γ 0)), (1, .int x1)] [] M Q) (x1 : Int32) (M : jM) (e1 : Int32) (Me : jM) (h : f_X6_init_L191_b rec x1 M = some (e1, Me)) (hK : jJ Γ GM RM 210 [(0, .ref (jad Γ 0)), (1, .int e1)] [] Me Q) : jJ Γ GM RM 191 [(0, .ref (jad Γ 0)), (1, .int x1)] [] M Q := by
  unfold f_X6_init_L191_b at h
  refine j_iload_n 1 (pc' := 192) hC dX6_init_191 rfl rfl ?_
  refine j_bipush (v := 6) (pc' := 194) hC dX6_init_192 rfl rfl ?_
  refine j_icmp_ge (tgt := 210) (pc' := 197) hC dX6_init_194 (by decide) rfl (fun c1 => ?_) (fun c1 => ?_)
  · have h := jit_t c1 h
    obtain ⟨q0, q1⟩ := jinj2 h
    subst q0
    subst q1
    refine j_sub [0, 1] rfl ?_
    exact hK
  · have h := jit_f c1 h
    refine j_aload_n 0 (pc' := 198) hC dX6_init_197 rfl rfl ?_
    refine j_getr' (o2 := 1) (pc' := 201) hC dX6_init_198 rfl fi_X6_7 gm0 rfl ?_
    refine j_iload_n 1 (pc' := 202) hC dX6_init_201 rfl rfl ?_
    refine j_iconst (v := -1) (pc' := 203) hC dX6_init_202 rfl rfl ?_
    obtain ⟨g2, h⟩ := jg_s h
    obtain ⟨M3, eM3, h⟩ := jlet_s h
    refine j_iast' (pc' := 204) hC dX6_init_203 rfl gm1 g2 eM3 ?_
    obtain ⟨v4, ev4, h⟩ := jlet_s h
    refine j_iinc' 1 (c := 1) (pc' := 207) hC dX6_init_204 rfl rfl rfl ev4 (by decide) rfl ?_
    refine j_goto (tgt := 191) (pc' := 0) hC dX6_init_207 (by decide) ?_
    refine j_sub [1, 0] rfl ?_
    exact ih _ _ _ _ h hK
theorem lp_X6_init_L191 {Γ : jG} (hC : jOK Γ cX6_init 2 RX6 (none) { frames := 1, cells := 22, slots := 51960, locals := 20 }) {Q : State → Prop} : ∀ (n : Nat) (x1 : Int32) (M : jM) (e1 : Int32) (Me : jM), f_X6_init_L191 n x1 M = some (e1, Me) → jJ Γ GM RM 210 [(0, .ref (jad Γ 0)), (1, .int e1)] [] Me Q → jJ Γ GM RM 191 [(0, .ref (jad Γ 0)), (1, .int x1)] [] M Q := by
  intro n
  induction n with
  | zero =>
    intro x1 M e1 Me h hK
    exact jno h
  | succ n ih =>
    intro x1 M e1 Me h hK
    exact lp_X6_init_L191_b hC (f_X6_init_L191 n) ih x1 M e1 Me h hK
theorem lp_X6_init_L212_b {Γ : jG} (hC : jOK Γ cX6_init 2 RX6 (none) { frames := 1, cells := 22, slots := 51960, locals := 20 }) {Q : State → Prop} (rec : Int32 → jM → Option (Int32 × jM)) (ih : ∀ (x1 : Int32) (M : jM) (e1 : Int32) (Me : jM), rec x1 M = some (e1, Me) → jJ Γ GM RM 230 [(0, .ref (jad Γ 0)), (1, .int e1)] [] Me Q → jJ Γ GM RM 212 [(0, .ref (jad Γ 0)), (1, .int x1)] [] M Q) (x1 : Int32) (M : jM) (e1 : Int32) (Me : jM) (h : f_X6_init_L212_b rec x1 M = some (e1, Me)) (hK : jJ Γ GM RM 230 [(0, .ref (jad Γ 0)), (1, .int e1)] [] Me Q) : jJ Γ GM RM 212 [(0, .ref (jad Γ 0)), (1, .int x1)] [] M Q := by
  unfold f_X6_init_L212_b at h
  refine j_iload_n 1 (pc' := 213) hC dX6_init_212 rfl rfl ?_
  refine j_iconst (v := 4) (pc' := 214) hC dX6_init_213 rfl rfl ?_
  refine j_icmp_ge (tgt := 230) (pc' := 217) hC dX6_init_214 (by decide) rfl (fun c1 => ?_) (fun c1 => ?_)
  · have h := jit_t c1 h
    obtain ⟨q0, q1⟩ := jinj2 h
    subst q0
    subst q1
    refine j_sub [0, 1] rfl ?_
    exact hK
  · have h := jit_f c1 h
    refine j_aload_n 0 (pc' := 218) hC dX6_init_217 rfl rfl ?_
    refine j_getr' (o2 := 3) (pc' := 221) hC dX6_init_218 rfl fi_X6_16 gm0 rfl ?_
    refine j_iload_n 1 (pc' := 222) hC dX6_init_221 rfl rfl ?_
    refine j_iconst (v := -1) (pc' := 223) hC dX6_init_222 rfl rfl ?_
    obtain ⟨g2, h⟩ := jg_s h
    obtain ⟨M3, eM3, h⟩ := jlet_s h
    refine j_iast' (pc' := 224) hC dX6_init_223 rfl gm3 g2 eM3 ?_
    obtain ⟨v4, ev4, h⟩ := jlet_s h
    refine j_iinc' 1 (c := 1) (pc' := 227) hC dX6_init_224 rfl rfl rfl ev4 (by decide) rfl ?_
    refine j_goto (tgt := 212) (pc' := 0) hC dX6_init_227 (by decide) ?_
    refine j_sub [1, 0] rfl ?_
    exact ih _ _ _ _ h hK
theorem lp_X6_init_L212 {Γ : jG} (hC : jOK Γ cX6_init 2 RX6 (none) { frames := 1, cells := 22, slots := 51960, locals := 20 }) {Q : State → Prop} : ∀ (n : Nat) (x1 : Int32) (M : jM) (e1 : Int32) (Me : jM), f_X6_init_L212 n x1 M = some (e1, Me) → jJ Γ GM RM 230 [(0, .ref (jad Γ 0)), (1, .int e1)] [] Me Q → jJ Γ GM RM 212 [(0, .ref (jad Γ 0)), (1, .int x1)] [] M Q := by
  intro n
  induction n with
  | zero =>
    intro x1 M e1 Me h hK
    exact jno h
  | succ n ih =>
    intro x1 M e1 Me h hK
    exact lp_X6_init_L212_b hC (f_X6_init_L212 n) ih x1 M e1 Me h hK
theorem t_X6_initT {Γ : jG} (hC : jOK Γ cX6_init 2 RX6 none { frames := 1, cells := 22, slots := 51960, locals := 20 }) {Q : State → Prop} {M M' : jM} (h : f_X6_initT M = some M') (hK : ∀ lv, jJ Γ GM RM 234 lv [] M' Q) : jJ Γ GM RM 189 [(0, .ref (jad Γ 0))] [] M Q := by
  unfold f_X6_initT at h
  refine j_iconst (v := 0) (pc' := 190) hC dX6_init_189 rfl rfl ?_
  refine j_istore_n (pc' := 191) hC dX6_init_190 rfl rfl (by decide) rfl ?_
  refine j_sub [1, 0] rfl ?_
  obtain ⟨v1, M2, hm3, h⟩ := jb2_s h
  refine lp_X6_init_L191 hC  jfu (0 : Int32) M v1 M2 hm3 ?_
  refine j_iconst (v := 0) (pc' := 211) hC dX6_init_210 rfl rfl ?_
  refine j_istore_n (pc' := 212) hC dX6_init_211 rfl rfl (by decide) rfl ?_
  refine j_sub [1, 0] rfl ?_
  obtain ⟨v4, M5, hm6, h⟩ := jb2_s h
  refine lp_X6_init_L212 hC  jfu (0 : Int32) M2 v4 M5 hm6 ?_
  refine j_aload_n 0 (pc' := 231) hC dX6_init_230 rfl rfl ?_
  obtain ⟨M7, hc8, h⟩ := jb1_s h
  refine j_callVv [] (pc' := 234) hC dX6_init_231 rfl (t_X6_newRoutes _ _ hc8) gm0 vcl6 cv_X6_81 ⟨⟨Nat.le_of_ble_eq_true rfl, Nat.le_of_ble_eq_true rfl⟩, rfl, Nat.le_of_ble_eq_true rfl⟩ rfl rfl ?_
  have q8 := jinj1 h
  subst q8
  exact hK _
def mM9 : jM := (fun _ _ => 0, fun o => match o with
  | 0 => fun k => if k = 18 then 1 else 0
  | _ => fun _ => 0)
def jset (Γ : jG) (u : Nat → Nat) (kc ks : Nat) : jG := match Γ with
  | (p, l, e, R, s, m, args, below, meth, c, nL, D, cy, ad, st, A, kc9, ks9) => (p, l, e, R, s, m, args, below, meth, c, nL, D, cy, u, st, A, kc, ks)
theorem jset_ad {Γ : jG} {u : Nat → Nat} {kc ks : Nat} : jad (jset Γ u kc ks) = u := by
  obtain ⟨p, l, e, R, s, m, args, below, meth, c, nL, D, cy, ad, st, A, kc9, ks9⟩ := Γ
  rfl
theorem jset_ok {Γ : jG} {cc : ByteArray} {nl : Nat} {own : String} {ret : Option FieldType} {rm : Room} {u : Nat → Nat} {kc ks : Nat} (h : jOK Γ cc nl own ret rm) (h1 : kc ≤ rm.cells) (h2 : ks ≤ rm.slots) : jOK (jset Γ u kc ks) cc nl own ret rm := by
  obtain ⟨p, l, e, R, s, m, args, below, meth, c, nL, D, cy, ad, st, A, kc9, ks9⟩ := Γ
  obtain ⟨hx, hb, hml, hown, hts, hR, hlk, hrt, hK, hZ, hN, hA, hnl, hkc, hks⟩ := h
  exact ⟨hx, hb, hml, hown, hts, hR, hlk, hrt, hK, hZ, hN, hA, hnl, h1, h2⟩
theorem c_bridge {Γ : jG} {ws : va_W} {kc ks pc : Nat} {lv : List (Nat × Value)} {stk : List Value} {Q : State → Prop} {G : List (Nat × Nat)} {Rf : Nat → Nat → Option Nat} {M : jM} (u : Nat → Nat) (is : List Nat) (hs : is.map (fun i => ws[i]?) = (jws (jcy Γ) u Rf M G).map some) (hnd : va_nd is = true) (k : jJ (jset Γ u kc ks) G Rf pc lv stk M Q) : cJ Γ ws kc ks pc lv stk Q := by
  obtain ⟨p, l, e, R, s, m, args, below, meth, c, nL, D, cy, ad, st, A, kc9, ks9⟩ := Γ
  intro H locs ls hl hP hD hS
  refine k H locs ls hl (fun k9 q hq => ?_) (hD.sub is hnd hs) hS
  have h1 : (is.map (fun i => ws[i]?))[k9]? = some (some q) := by
    rw [hs, List.getElem?_map]
    exact congrArg (Option.map some) hq
  rw [List.getElem?_map] at h1
  cases hi : is[k9]? with
  | none => rw [hi] at h1; cases h1
  | some i => rw [hi] at h1; exact hP i q (Option.some.inj h1)
theorem j_cret {Γ : jG} {cc : ByteArray} {nl : Nat} {own : String} {rm : Room} {kc ks pc : Nat} {lv : List (Nat × Value)} {G : List (Nat × Nat)} {Rf : Nat → Nat → Option Nat} {M : jM} {W2 : (Nat → Nat) → va_W} (u v : Nat → Nat) (hC : jOK Γ cc nl own none rm) (hd : decode cc pc = .ok (.return_, 1)) (hW : W2 v = jws (jcy Γ) u Rf M G) : jJ (jset Γ u kc ks) G Rf pc lv [] M (cQ Γ kc ks W2) := by
  obtain ⟨p, l, e, R, s, m, args, below, meth, c, nL, D, cy, ad, st, A, kc9, ks9⟩ := Γ
  obtain ⟨hx, hb, hml, hown, hts, hR, hlk, hrt, hK, hZ, hN, hA, hnl, hkc, hks⟩ := hC
  intro H locs ls hl hP hD hS
  exact W.vret hx hb hrt (fun t ht hWm => ⟨⟨v, rfl, trivial, by rw [ht, hW]; exact hP, va_K.moved hWm.alike hK, by rw [hW]; exact hD⟩, hS.F ht⟩) hS.2.2 hd hlk
set_option maxRecDepth 100000 in
set_option maxHeartbeats 1000000 in
theorem ct_X6 (l : Launch) (E : cE) (h0 : Nat) {M0 : jM} (hM : f_X6_initT mM9 = some M0) : cCt l yX6_init cX6_init 2 1 22 51960 20 E [.ref h0] [(h0, .inr (6, [.null, .null, .null, .null, .null, .null, .null, .int 0, .null, .null, .null, .int 0, .null, .null, .null, .int 0, .int 0, .long 0, .long 0, .int 0, .null, .null, .int 0, .null, .int 0, .null, .int 0, .null, .null, .null, .null, .null, .long 0]))] (fun u => jws E.2.1 (fun i => if i = 0 then h0 else u i) RM M0 GM) := by
  refine cCt_of (own := RX6) (by decide) rfl rfl (Nat.le_of_ble_eq_true rfl) ?_
  intro Γ hC hin hE hl
  subst hE
  subst hl
  rw [cEcy]
  show cJ Γ [(h0, .inr (6, [.null, .null, .null, .null, .null, .null, .null, .int 0, .null, .null, .null, .int 0, .null, .null, .null, .int 0, .int 0, .long 0, .long 0, .int 0, .null, .null, .int 0, .null, .int 0, .null, .int 0, .null, .null, .null, .null, .null, .long 0]))] 0 0 0 [(0, .ref h0)] [] _
  refine c_aload_n 0 (pc' := 1) hC dX6_init_0 rfl rfl ?_
  refine c_obj (pc' := 4) hC dX6_init_1 rfl ko_X6_1 ⟨Nat.le_of_ble_eq_true rfl, Nat.le_of_ble_eq_true rfl⟩ ?_
  refine c_aload_n 0 (pc' := 5) hC dX6_init_4 rfl rfl ?_
  refine c_bipush (v := 6) (pc' := 7) hC dX6_init_5 rfl rfl ?_
  refine c_new0 (N := 6) (pc' := 9) hC dX6_init_7 rfl ac_int ⟨by decide, rfl, by decide⟩ ⟨Nat.le_of_ble_eq_true rfl, Nat.le_of_ble_eq_true rfl⟩ (fun q1 => ?_)
  show cJ Γ [(h0, .inr (6, [.null, .null, .null, .null, .null, .null, .null, .int 0, .null, .null, .null, .int 0, .null, .null, .null, .int 0, .int 0, .long 0, .long 0, .int 0, .null, .null, .int 0, .null, .int 0, .null, .int 0, .null, .null, .null, .null, .null, .long 0])), (q1, .inl ((jcy Γ) 0, 6, .inl (fun _ => 0)))] 1 6 9 [(0, .ref h0)] [.ref q1, .ref h0] _
  refine c_put (ws' := [(h0, .inr (6, [.ref q1, .null, .null, .null, .null, .null, .null, .int 0, .null, .null, .null, .int 0, .null, .null, .null, .int 0, .int 0, .long 0, .long 0, .int 0, .null, .null, .int 0, .null, .int 0, .null, .int 0, .null, .null, .null, .null, .null, .long 0])), (q1, .inl ((jcy Γ) 0, 6, .inl (fun _ => 0)))]) (k0 := 0) 0 (pc' := 12) hC hin dX6_init_9 rfl cls6 (by decide) fi_X6_7.2.2.1 rfl rfl ⟨rfl, rfl⟩ rfl (Nat.le_of_ble_eq_true rfl) rfl ?_
  refine c_aload_n 0 (pc' := 13) hC dX6_init_12 rfl rfl ?_
  refine c_sipush (v := 240) (pc' := 16) hC dX6_init_13 rfl rfl ?_
  refine c_new0 (N := 240) (pc' := 18) hC dX6_init_16 rfl ac_int ⟨by decide, rfl, by decide⟩ ⟨Nat.le_of_ble_eq_true rfl, Nat.le_of_ble_eq_true rfl⟩ (fun q2 => ?_)
  show cJ Γ [(h0, .inr (6, [.ref q1, .null, .null, .null, .null, .null, .null, .int 0, .null, .null, .null, .int 0, .null, .null, .null, .int 0, .int 0, .long 0, .long 0, .int 0, .null, .null, .int 0, .null, .int 0, .null, .int 0, .null, .null, .null, .null, .null, .long 0])), (q1, .inl ((jcy Γ) 0, 6, .inl (fun _ => 0))), (q2, .inl ((jcy Γ) 0, 240, .inl (fun _ => 0)))] 2 246 18 [(0, .ref h0)] [.ref q2, .ref h0] _
  refine c_put (ws' := [(h0, .inr (6, [.ref q1, .ref q2, .null, .null, .null, .null, .null, .int 0, .null, .null, .null, .int 0, .null, .null, .null, .int 0, .int 0, .long 0, .long 0, .int 0, .null, .null, .int 0, .null, .int 0, .null, .int 0, .null, .null, .null, .null, .null, .long 0])), (q1, .inl ((jcy Γ) 0, 6, .inl (fun _ => 0))), (q2, .inl ((jcy Γ) 0, 240, .inl (fun _ => 0)))]) (k0 := 1) 0 (pc' := 21) hC hin dX6_init_18 rfl cls6 (by decide) fi_X6_13.2.2.1 rfl rfl ⟨rfl, rfl⟩ rfl (Nat.le_of_ble_eq_true rfl) rfl ?_
  refine c_aload_n 0 (pc' := 22) hC dX6_init_21 rfl rfl ?_
  refine c_iconst (v := 4) (pc' := 23) hC dX6_init_22 rfl rfl ?_
  refine c_new0 (N := 4) (pc' := 25) hC dX6_init_23 rfl ac_int ⟨by decide, rfl, by decide⟩ ⟨Nat.le_of_ble_eq_true rfl, Nat.le_of_ble_eq_true rfl⟩ (fun q3 => ?_)
  show cJ Γ [(h0, .inr (6, [.ref q1, .ref q2, .null, .null, .null, .null, .null, .int 0, .null, .null, .null, .int 0, .null, .null, .null, .int 0, .int 0, .long 0, .long 0, .int 0, .null, .null, .int 0, .null, .int 0, .null, .int 0, .null, .null, .null, .null, .null, .long 0])), (q1, .inl ((jcy Γ) 0, 6, .inl (fun _ => 0))), (q2, .inl ((jcy Γ) 0, 240, .inl (fun _ => 0))), (q3, .inl ((jcy Γ) 0, 4, .inl (fun _ => 0)))] 3 250 25 [(0, .ref h0)] [.ref q3, .ref h0] _
  refine c_put (ws' := [(h0, .inr (6, [.ref q1, .ref q2, .ref q3, .null, .null, .null, .null, .int 0, .null, .null, .null, .int 0, .null, .null, .null, .int 0, .int 0, .long 0, .long 0, .int 0, .null, .null, .int 0, .null, .int 0, .null, .int 0, .null, .null, .null, .null, .null, .long 0])), (q1, .inl ((jcy Γ) 0, 6, .inl (fun _ => 0))), (q2, .inl ((jcy Γ) 0, 240, .inl (fun _ => 0))), (q3, .inl ((jcy Γ) 0, 4, .inl (fun _ => 0)))]) (k0 := 2) 0 (pc' := 28) hC hin dX6_init_25 rfl cls6 (by decide) fi_X6_16.2.2.1 rfl rfl ⟨rfl, rfl⟩ rfl (Nat.le_of_ble_eq_true rfl) rfl ?_
  refine c_aload_n 0 (pc' := 29) hC dX6_init_28 rfl rfl ?_
  refine c_sipush (v := 320) (pc' := 32) hC dX6_init_29 rfl rfl ?_
  refine c_new0 (N := 320) (pc' := 34) hC dX6_init_32 rfl ac_int ⟨by decide, rfl, by decide⟩ ⟨Nat.le_of_ble_eq_true rfl, Nat.le_of_ble_eq_true rfl⟩ (fun q4 => ?_)
  show cJ Γ [(h0, .inr (6, [.ref q1, .ref q2, .ref q3, .null, .null, .null, .null, .int 0, .null, .null, .null, .int 0, .null, .null, .null, .int 0, .int 0, .long 0, .long 0, .int 0, .null, .null, .int 0, .null, .int 0, .null, .int 0, .null, .null, .null, .null, .null, .long 0])), (q1, .inl ((jcy Γ) 0, 6, .inl (fun _ => 0))), (q2, .inl ((jcy Γ) 0, 240, .inl (fun _ => 0))), (q3, .inl ((jcy Γ) 0, 4, .inl (fun _ => 0))), (q4, .inl ((jcy Γ) 0, 320, .inl (fun _ => 0)))] 4 570 34 [(0, .ref h0)] [.ref q4, .ref h0] _
  refine c_put (ws' := [(h0, .inr (6, [.ref q1, .ref q2, .ref q3, .ref q4, .null, .null, .null, .int 0, .null, .null, .null, .int 0, .null, .null, .null, .int 0, .int 0, .long 0, .long 0, .int 0, .null, .null, .int 0, .null, .int 0, .null, .int 0, .null, .null, .null, .null, .null, .long 0])), (q1, .inl ((jcy Γ) 0, 6, .inl (fun _ => 0))), (q2, .inl ((jcy Γ) 0, 240, .inl (fun _ => 0))), (q3, .inl ((jcy Γ) 0, 4, .inl (fun _ => 0))), (q4, .inl ((jcy Γ) 0, 320, .inl (fun _ => 0)))]) (k0 := 3) 0 (pc' := 37) hC hin dX6_init_34 rfl cls6 (by decide) fi_X6_19.2.2.1 rfl rfl ⟨rfl, rfl⟩ rfl (Nat.le_of_ble_eq_true rfl) rfl ?_
  refine c_aload_n 0 (pc' := 38) hC dX6_init_37 rfl rfl ?_
  refine c_bipush (v := 6) (pc' := 40) hC dX6_init_38 rfl rfl ?_
  refine c_new0 (N := 6) (pc' := 42) hC dX6_init_40 rfl ac_int ⟨by decide, rfl, by decide⟩ ⟨Nat.le_of_ble_eq_true rfl, Nat.le_of_ble_eq_true rfl⟩ (fun q5 => ?_)
  show cJ Γ [(h0, .inr (6, [.ref q1, .ref q2, .ref q3, .ref q4, .null, .null, .null, .int 0, .null, .null, .null, .int 0, .null, .null, .null, .int 0, .int 0, .long 0, .long 0, .int 0, .null, .null, .int 0, .null, .int 0, .null, .int 0, .null, .null, .null, .null, .null, .long 0])), (q1, .inl ((jcy Γ) 0, 6, .inl (fun _ => 0))), (q2, .inl ((jcy Γ) 0, 240, .inl (fun _ => 0))), (q3, .inl ((jcy Γ) 0, 4, .inl (fun _ => 0))), (q4, .inl ((jcy Γ) 0, 320, .inl (fun _ => 0))), (q5, .inl ((jcy Γ) 0, 6, .inl (fun _ => 0)))] 5 576 42 [(0, .ref h0)] [.ref q5, .ref h0] _
  refine c_put (ws' := [(h0, .inr (6, [.ref q1, .ref q2, .ref q3, .ref q4, .ref q5, .null, .null, .int 0, .null, .null, .null, .int 0, .null, .null, .null, .int 0, .int 0, .long 0, .long 0, .int 0, .null, .null, .int 0, .null, .int 0, .null, .int 0, .null, .null, .null, .null, .null, .long 0])), (q1, .inl ((jcy Γ) 0, 6, .inl (fun _ => 0))), (q2, .inl ((jcy Γ) 0, 240, .inl (fun _ => 0))), (q3, .inl ((jcy Γ) 0, 4, .inl (fun _ => 0))), (q4, .inl ((jcy Γ) 0, 320, .inl (fun _ => 0))), (q5, .inl ((jcy Γ) 0, 6, .inl (fun _ => 0)))]) (k0 := 4) 0 (pc' := 45) hC hin dX6_init_42 rfl cls6 (by decide) fi_X6_22.2.2.1 rfl rfl ⟨rfl, rfl⟩ rfl (Nat.le_of_ble_eq_true rfl) rfl ?_
  refine c_aload_n 0 (pc' := 46) hC dX6_init_45 rfl rfl ?_
  refine c_bipush (v := 6) (pc' := 48) hC dX6_init_46 rfl rfl ?_
  refine c_new0 (N := 6) (pc' := 50) hC dX6_init_48 rfl ac_int ⟨by decide, rfl, by decide⟩ ⟨Nat.le_of_ble_eq_true rfl, Nat.le_of_ble_eq_true rfl⟩ (fun q6 => ?_)
  show cJ Γ [(h0, .inr (6, [.ref q1, .ref q2, .ref q3, .ref q4, .ref q5, .null, .null, .int 0, .null, .null, .null, .int 0, .null, .null, .null, .int 0, .int 0, .long 0, .long 0, .int 0, .null, .null, .int 0, .null, .int 0, .null, .int 0, .null, .null, .null, .null, .null, .long 0])), (q1, .inl ((jcy Γ) 0, 6, .inl (fun _ => 0))), (q2, .inl ((jcy Γ) 0, 240, .inl (fun _ => 0))), (q3, .inl ((jcy Γ) 0, 4, .inl (fun _ => 0))), (q4, .inl ((jcy Γ) 0, 320, .inl (fun _ => 0))), (q5, .inl ((jcy Γ) 0, 6, .inl (fun _ => 0))), (q6, .inl ((jcy Γ) 0, 6, .inl (fun _ => 0)))] 6 582 50 [(0, .ref h0)] [.ref q6, .ref h0] _
  refine c_put (ws' := [(h0, .inr (6, [.ref q1, .ref q2, .ref q3, .ref q4, .ref q5, .ref q6, .null, .int 0, .null, .null, .null, .int 0, .null, .null, .null, .int 0, .int 0, .long 0, .long 0, .int 0, .null, .null, .int 0, .null, .int 0, .null, .int 0, .null, .null, .null, .null, .null, .long 0])), (q1, .inl ((jcy Γ) 0, 6, .inl (fun _ => 0))), (q2, .inl ((jcy Γ) 0, 240, .inl (fun _ => 0))), (q3, .inl ((jcy Γ) 0, 4, .inl (fun _ => 0))), (q4, .inl ((jcy Γ) 0, 320, .inl (fun _ => 0))), (q5, .inl ((jcy Γ) 0, 6, .inl (fun _ => 0))), (q6, .inl ((jcy Γ) 0, 6, .inl (fun _ => 0)))]) (k0 := 5) 0 (pc' := 53) hC hin dX6_init_50 rfl cls6 (by decide) fi_X6_25.2.2.1 rfl rfl ⟨rfl, rfl⟩ rfl (Nat.le_of_ble_eq_true rfl) rfl ?_
  refine c_aload_n 0 (pc' := 54) hC dX6_init_53 rfl rfl ?_
  refine c_bipush (v := 6) (pc' := 56) hC dX6_init_54 rfl rfl ?_
  refine c_new0 (N := 6) (pc' := 58) hC dX6_init_56 rfl ac_int ⟨by decide, rfl, by decide⟩ ⟨Nat.le_of_ble_eq_true rfl, Nat.le_of_ble_eq_true rfl⟩ (fun q7 => ?_)
  show cJ Γ [(h0, .inr (6, [.ref q1, .ref q2, .ref q3, .ref q4, .ref q5, .ref q6, .null, .int 0, .null, .null, .null, .int 0, .null, .null, .null, .int 0, .int 0, .long 0, .long 0, .int 0, .null, .null, .int 0, .null, .int 0, .null, .int 0, .null, .null, .null, .null, .null, .long 0])), (q1, .inl ((jcy Γ) 0, 6, .inl (fun _ => 0))), (q2, .inl ((jcy Γ) 0, 240, .inl (fun _ => 0))), (q3, .inl ((jcy Γ) 0, 4, .inl (fun _ => 0))), (q4, .inl ((jcy Γ) 0, 320, .inl (fun _ => 0))), (q5, .inl ((jcy Γ) 0, 6, .inl (fun _ => 0))), (q6, .inl ((jcy Γ) 0, 6, .inl (fun _ => 0))), (q7, .inl ((jcy Γ) 0, 6, .inl (fun _ => 0)))] 7 588 58 [(0, .ref h0)] [.ref q7, .ref h0] _
  refine c_put (ws' := [(h0, .inr (6, [.ref q1, .ref q2, .ref q3, .ref q4, .ref q5, .ref q6, .ref q7, .int 0, .null, .null, .null, .int 0, .null, .null, .null, .int 0, .int 0, .long 0, .long 0, .int 0, .null, .null, .int 0, .null, .int 0, .null, .int 0, .null, .null, .null, .null, .null, .long 0])), (q1, .inl ((jcy Γ) 0, 6, .inl (fun _ => 0))), (q2, .inl ((jcy Γ) 0, 240, .inl (fun _ => 0))), (q3, .inl ((jcy Γ) 0, 4, .inl (fun _ => 0))), (q4, .inl ((jcy Γ) 0, 320, .inl (fun _ => 0))), (q5, .inl ((jcy Γ) 0, 6, .inl (fun _ => 0))), (q6, .inl ((jcy Γ) 0, 6, .inl (fun _ => 0))), (q7, .inl ((jcy Γ) 0, 6, .inl (fun _ => 0)))]) (k0 := 6) 0 (pc' := 61) hC hin dX6_init_58 rfl cls6 (by decide) fi_X6_28.2.2.1 rfl rfl ⟨rfl, rfl⟩ rfl (Nat.le_of_ble_eq_true rfl) rfl ?_
  refine c_aload_n 0 (pc' := 62) hC dX6_init_61 rfl rfl ?_
  refine c_bipush (v := 7) (pc' := 64) hC dX6_init_62 rfl rfl ?_
  refine c_new0 (N := 7) (pc' := 66) hC dX6_init_64 rfl ac_int ⟨by decide, rfl, by decide⟩ ⟨Nat.le_of_ble_eq_true rfl, Nat.le_of_ble_eq_true rfl⟩ (fun q8 => ?_)
  show cJ Γ [(h0, .inr (6, [.ref q1, .ref q2, .ref q3, .ref q4, .ref q5, .ref q6, .ref q7, .int 0, .null, .null, .null, .int 0, .null, .null, .null, .int 0, .int 0, .long 0, .long 0, .int 0, .null, .null, .int 0, .null, .int 0, .null, .int 0, .null, .null, .null, .null, .null, .long 0])), (q1, .inl ((jcy Γ) 0, 6, .inl (fun _ => 0))), (q2, .inl ((jcy Γ) 0, 240, .inl (fun _ => 0))), (q3, .inl ((jcy Γ) 0, 4, .inl (fun _ => 0))), (q4, .inl ((jcy Γ) 0, 320, .inl (fun _ => 0))), (q5, .inl ((jcy Γ) 0, 6, .inl (fun _ => 0))), (q6, .inl ((jcy Γ) 0, 6, .inl (fun _ => 0))), (q7, .inl ((jcy Γ) 0, 6, .inl (fun _ => 0))), (q8, .inl ((jcy Γ) 0, 7, .inl (fun _ => 0)))] 8 595 66 [(0, .ref h0)] [.ref q8, .ref h0] _
  refine c_put (ws' := [(h0, .inr (6, [.ref q1, .ref q2, .ref q3, .ref q4, .ref q5, .ref q6, .ref q7, .int 0, .ref q8, .null, .null, .int 0, .null, .null, .null, .int 0, .int 0, .long 0, .long 0, .int 0, .null, .null, .int 0, .null, .int 0, .null, .int 0, .null, .null, .null, .null, .null, .long 0])), (q1, .inl ((jcy Γ) 0, 6, .inl (fun _ => 0))), (q2, .inl ((jcy Γ) 0, 240, .inl (fun _ => 0))), (q3, .inl ((jcy Γ) 0, 4, .inl (fun _ => 0))), (q4, .inl ((jcy Γ) 0, 320, .inl (fun _ => 0))), (q5, .inl ((jcy Γ) 0, 6, .inl (fun _ => 0))), (q6, .inl ((jcy Γ) 0, 6, .inl (fun _ => 0))), (q7, .inl ((jcy Γ) 0, 6, .inl (fun _ => 0))), (q8, .inl ((jcy Γ) 0, 7, .inl (fun _ => 0)))]) (k0 := 8) 0 (pc' := 69) hC hin dX6_init_66 rfl cls6 (by decide) fi_X6_31.2.2.1 rfl rfl ⟨rfl, rfl⟩ rfl (Nat.le_of_ble_eq_true rfl) rfl ?_
  refine c_aload_n 0 (pc' := 70) hC dX6_init_69 rfl rfl ?_
  refine c_bipush (v := 7) (pc' := 72) hC dX6_init_70 rfl rfl ?_
  refine c_new0 (N := 7) (pc' := 74) hC dX6_init_72 rfl ac_int ⟨by decide, rfl, by decide⟩ ⟨Nat.le_of_ble_eq_true rfl, Nat.le_of_ble_eq_true rfl⟩ (fun q9 => ?_)
  show cJ Γ [(h0, .inr (6, [.ref q1, .ref q2, .ref q3, .ref q4, .ref q5, .ref q6, .ref q7, .int 0, .ref q8, .null, .null, .int 0, .null, .null, .null, .int 0, .int 0, .long 0, .long 0, .int 0, .null, .null, .int 0, .null, .int 0, .null, .int 0, .null, .null, .null, .null, .null, .long 0])), (q1, .inl ((jcy Γ) 0, 6, .inl (fun _ => 0))), (q2, .inl ((jcy Γ) 0, 240, .inl (fun _ => 0))), (q3, .inl ((jcy Γ) 0, 4, .inl (fun _ => 0))), (q4, .inl ((jcy Γ) 0, 320, .inl (fun _ => 0))), (q5, .inl ((jcy Γ) 0, 6, .inl (fun _ => 0))), (q6, .inl ((jcy Γ) 0, 6, .inl (fun _ => 0))), (q7, .inl ((jcy Γ) 0, 6, .inl (fun _ => 0))), (q8, .inl ((jcy Γ) 0, 7, .inl (fun _ => 0))), (q9, .inl ((jcy Γ) 0, 7, .inl (fun _ => 0)))] 9 602 74 [(0, .ref h0)] [.ref q9, .ref h0] _
  refine c_put (ws' := [(h0, .inr (6, [.ref q1, .ref q2, .ref q3, .ref q4, .ref q5, .ref q6, .ref q7, .int 0, .ref q8, .ref q9, .null, .int 0, .null, .null, .null, .int 0, .int 0, .long 0, .long 0, .int 0, .null, .null, .int 0, .null, .int 0, .null, .int 0, .null, .null, .null, .null, .null, .long 0])), (q1, .inl ((jcy Γ) 0, 6, .inl (fun _ => 0))), (q2, .inl ((jcy Γ) 0, 240, .inl (fun _ => 0))), (q3, .inl ((jcy Γ) 0, 4, .inl (fun _ => 0))), (q4, .inl ((jcy Γ) 0, 320, .inl (fun _ => 0))), (q5, .inl ((jcy Γ) 0, 6, .inl (fun _ => 0))), (q6, .inl ((jcy Γ) 0, 6, .inl (fun _ => 0))), (q7, .inl ((jcy Γ) 0, 6, .inl (fun _ => 0))), (q8, .inl ((jcy Γ) 0, 7, .inl (fun _ => 0))), (q9, .inl ((jcy Γ) 0, 7, .inl (fun _ => 0)))]) (k0 := 9) 0 (pc' := 77) hC hin dX6_init_74 rfl cls6 (by decide) fi_X6_34.2.2.1 rfl rfl ⟨rfl, rfl⟩ rfl (Nat.le_of_ble_eq_true rfl) rfl ?_
  refine c_aload_n 0 (pc' := 78) hC dX6_init_77 rfl rfl ?_
  refine c_bipush (v := 7) (pc' := 80) hC dX6_init_78 rfl rfl ?_
  refine c_new0 (N := 7) (pc' := 82) hC dX6_init_80 rfl ac_int ⟨by decide, rfl, by decide⟩ ⟨Nat.le_of_ble_eq_true rfl, Nat.le_of_ble_eq_true rfl⟩ (fun q10 => ?_)
  show cJ Γ [(h0, .inr (6, [.ref q1, .ref q2, .ref q3, .ref q4, .ref q5, .ref q6, .ref q7, .int 0, .ref q8, .ref q9, .null, .int 0, .null, .null, .null, .int 0, .int 0, .long 0, .long 0, .int 0, .null, .null, .int 0, .null, .int 0, .null, .int 0, .null, .null, .null, .null, .null, .long 0])), (q1, .inl ((jcy Γ) 0, 6, .inl (fun _ => 0))), (q2, .inl ((jcy Γ) 0, 240, .inl (fun _ => 0))), (q3, .inl ((jcy Γ) 0, 4, .inl (fun _ => 0))), (q4, .inl ((jcy Γ) 0, 320, .inl (fun _ => 0))), (q5, .inl ((jcy Γ) 0, 6, .inl (fun _ => 0))), (q6, .inl ((jcy Γ) 0, 6, .inl (fun _ => 0))), (q7, .inl ((jcy Γ) 0, 6, .inl (fun _ => 0))), (q8, .inl ((jcy Γ) 0, 7, .inl (fun _ => 0))), (q9, .inl ((jcy Γ) 0, 7, .inl (fun _ => 0))), (q10, .inl ((jcy Γ) 0, 7, .inl (fun _ => 0)))] 10 609 82 [(0, .ref h0)] [.ref q10, .ref h0] _
  refine c_put (ws' := [(h0, .inr (6, [.ref q1, .ref q2, .ref q3, .ref q4, .ref q5, .ref q6, .ref q7, .int 0, .ref q8, .ref q9, .ref q10, .int 0, .null, .null, .null, .int 0, .int 0, .long 0, .long 0, .int 0, .null, .null, .int 0, .null, .int 0, .null, .int 0, .null, .null, .null, .null, .null, .long 0])), (q1, .inl ((jcy Γ) 0, 6, .inl (fun _ => 0))), (q2, .inl ((jcy Γ) 0, 240, .inl (fun _ => 0))), (q3, .inl ((jcy Γ) 0, 4, .inl (fun _ => 0))), (q4, .inl ((jcy Γ) 0, 320, .inl (fun _ => 0))), (q5, .inl ((jcy Γ) 0, 6, .inl (fun _ => 0))), (q6, .inl ((jcy Γ) 0, 6, .inl (fun _ => 0))), (q7, .inl ((jcy Γ) 0, 6, .inl (fun _ => 0))), (q8, .inl ((jcy Γ) 0, 7, .inl (fun _ => 0))), (q9, .inl ((jcy Γ) 0, 7, .inl (fun _ => 0))), (q10, .inl ((jcy Γ) 0, 7, .inl (fun _ => 0)))]) (k0 := 10) 0 (pc' := 85) hC hin dX6_init_82 rfl cls6 (by decide) fi_X6_37.2.2.1 rfl rfl ⟨rfl, rfl⟩ rfl (Nat.le_of_ble_eq_true rfl) rfl ?_
  refine c_aload_n 0 (pc' := 86) hC dX6_init_85 rfl rfl ?_
  refine c_iconst (v := 3) (pc' := 87) hC dX6_init_86 rfl rfl ?_
  refine c_new0 (N := 3) (pc' := 89) hC dX6_init_87 rfl ac_int ⟨by decide, rfl, by decide⟩ ⟨Nat.le_of_ble_eq_true rfl, Nat.le_of_ble_eq_true rfl⟩ (fun q11 => ?_)
  show cJ Γ [(h0, .inr (6, [.ref q1, .ref q2, .ref q3, .ref q4, .ref q5, .ref q6, .ref q7, .int 0, .ref q8, .ref q9, .ref q10, .int 0, .null, .null, .null, .int 0, .int 0, .long 0, .long 0, .int 0, .null, .null, .int 0, .null, .int 0, .null, .int 0, .null, .null, .null, .null, .null, .long 0])), (q1, .inl ((jcy Γ) 0, 6, .inl (fun _ => 0))), (q2, .inl ((jcy Γ) 0, 240, .inl (fun _ => 0))), (q3, .inl ((jcy Γ) 0, 4, .inl (fun _ => 0))), (q4, .inl ((jcy Γ) 0, 320, .inl (fun _ => 0))), (q5, .inl ((jcy Γ) 0, 6, .inl (fun _ => 0))), (q6, .inl ((jcy Γ) 0, 6, .inl (fun _ => 0))), (q7, .inl ((jcy Γ) 0, 6, .inl (fun _ => 0))), (q8, .inl ((jcy Γ) 0, 7, .inl (fun _ => 0))), (q9, .inl ((jcy Γ) 0, 7, .inl (fun _ => 0))), (q10, .inl ((jcy Γ) 0, 7, .inl (fun _ => 0))), (q11, .inl ((jcy Γ) 0, 3, .inl (fun _ => 0)))] 11 612 89 [(0, .ref h0)] [.ref q11, .ref h0] _
  refine c_put (ws' := [(h0, .inr (6, [.ref q1, .ref q2, .ref q3, .ref q4, .ref q5, .ref q6, .ref q7, .int 0, .ref q8, .ref q9, .ref q10, .int 0, .ref q11, .null, .null, .int 0, .int 0, .long 0, .long 0, .int 0, .null, .null, .int 0, .null, .int 0, .null, .int 0, .null, .null, .null, .null, .null, .long 0])), (q1, .inl ((jcy Γ) 0, 6, .inl (fun _ => 0))), (q2, .inl ((jcy Γ) 0, 240, .inl (fun _ => 0))), (q3, .inl ((jcy Γ) 0, 4, .inl (fun _ => 0))), (q4, .inl ((jcy Γ) 0, 320, .inl (fun _ => 0))), (q5, .inl ((jcy Γ) 0, 6, .inl (fun _ => 0))), (q6, .inl ((jcy Γ) 0, 6, .inl (fun _ => 0))), (q7, .inl ((jcy Γ) 0, 6, .inl (fun _ => 0))), (q8, .inl ((jcy Γ) 0, 7, .inl (fun _ => 0))), (q9, .inl ((jcy Γ) 0, 7, .inl (fun _ => 0))), (q10, .inl ((jcy Γ) 0, 7, .inl (fun _ => 0))), (q11, .inl ((jcy Γ) 0, 3, .inl (fun _ => 0)))]) (k0 := 12) 0 (pc' := 92) hC hin dX6_init_89 rfl cls6 (by decide) fi_X6_40.2.2.1 rfl rfl ⟨rfl, rfl⟩ rfl (Nat.le_of_ble_eq_true rfl) rfl ?_
  refine c_aload_n 0 (pc' := 93) hC dX6_init_92 rfl rfl ?_
  refine c_bipush (v := 12) (pc' := 95) hC dX6_init_93 rfl rfl ?_
  refine c_new0 (N := 12) (pc' := 97) hC dX6_init_95 rfl ac_int ⟨by decide, rfl, by decide⟩ ⟨Nat.le_of_ble_eq_true rfl, Nat.le_of_ble_eq_true rfl⟩ (fun q12 => ?_)
  show cJ Γ [(h0, .inr (6, [.ref q1, .ref q2, .ref q3, .ref q4, .ref q5, .ref q6, .ref q7, .int 0, .ref q8, .ref q9, .ref q10, .int 0, .ref q11, .null, .null, .int 0, .int 0, .long 0, .long 0, .int 0, .null, .null, .int 0, .null, .int 0, .null, .int 0, .null, .null, .null, .null, .null, .long 0])), (q1, .inl ((jcy Γ) 0, 6, .inl (fun _ => 0))), (q2, .inl ((jcy Γ) 0, 240, .inl (fun _ => 0))), (q3, .inl ((jcy Γ) 0, 4, .inl (fun _ => 0))), (q4, .inl ((jcy Γ) 0, 320, .inl (fun _ => 0))), (q5, .inl ((jcy Γ) 0, 6, .inl (fun _ => 0))), (q6, .inl ((jcy Γ) 0, 6, .inl (fun _ => 0))), (q7, .inl ((jcy Γ) 0, 6, .inl (fun _ => 0))), (q8, .inl ((jcy Γ) 0, 7, .inl (fun _ => 0))), (q9, .inl ((jcy Γ) 0, 7, .inl (fun _ => 0))), (q10, .inl ((jcy Γ) 0, 7, .inl (fun _ => 0))), (q11, .inl ((jcy Γ) 0, 3, .inl (fun _ => 0))), (q12, .inl ((jcy Γ) 0, 12, .inl (fun _ => 0)))] 12 624 97 [(0, .ref h0)] [.ref q12, .ref h0] _
  refine c_put (ws' := [(h0, .inr (6, [.ref q1, .ref q2, .ref q3, .ref q4, .ref q5, .ref q6, .ref q7, .int 0, .ref q8, .ref q9, .ref q10, .int 0, .ref q11, .ref q12, .null, .int 0, .int 0, .long 0, .long 0, .int 0, .null, .null, .int 0, .null, .int 0, .null, .int 0, .null, .null, .null, .null, .null, .long 0])), (q1, .inl ((jcy Γ) 0, 6, .inl (fun _ => 0))), (q2, .inl ((jcy Γ) 0, 240, .inl (fun _ => 0))), (q3, .inl ((jcy Γ) 0, 4, .inl (fun _ => 0))), (q4, .inl ((jcy Γ) 0, 320, .inl (fun _ => 0))), (q5, .inl ((jcy Γ) 0, 6, .inl (fun _ => 0))), (q6, .inl ((jcy Γ) 0, 6, .inl (fun _ => 0))), (q7, .inl ((jcy Γ) 0, 6, .inl (fun _ => 0))), (q8, .inl ((jcy Γ) 0, 7, .inl (fun _ => 0))), (q9, .inl ((jcy Γ) 0, 7, .inl (fun _ => 0))), (q10, .inl ((jcy Γ) 0, 7, .inl (fun _ => 0))), (q11, .inl ((jcy Γ) 0, 3, .inl (fun _ => 0))), (q12, .inl ((jcy Γ) 0, 12, .inl (fun _ => 0)))]) (k0 := 13) 0 (pc' := 100) hC hin dX6_init_97 rfl cls6 (by decide) fi_X6_43.2.2.1 rfl rfl ⟨rfl, rfl⟩ rfl (Nat.le_of_ble_eq_true rfl) rfl ?_
  refine c_aload_n 0 (pc' := 101) hC dX6_init_100 rfl rfl ?_
  refine c_sipush (v := 480) (pc' := 104) hC dX6_init_101 rfl rfl ?_
  refine c_new0 (N := 480) (pc' := 106) hC dX6_init_104 rfl ac_int ⟨by decide, rfl, by decide⟩ ⟨Nat.le_of_ble_eq_true rfl, Nat.le_of_ble_eq_true rfl⟩ (fun q13 => ?_)
  show cJ Γ [(h0, .inr (6, [.ref q1, .ref q2, .ref q3, .ref q4, .ref q5, .ref q6, .ref q7, .int 0, .ref q8, .ref q9, .ref q10, .int 0, .ref q11, .ref q12, .null, .int 0, .int 0, .long 0, .long 0, .int 0, .null, .null, .int 0, .null, .int 0, .null, .int 0, .null, .null, .null, .null, .null, .long 0])), (q1, .inl ((jcy Γ) 0, 6, .inl (fun _ => 0))), (q2, .inl ((jcy Γ) 0, 240, .inl (fun _ => 0))), (q3, .inl ((jcy Γ) 0, 4, .inl (fun _ => 0))), (q4, .inl ((jcy Γ) 0, 320, .inl (fun _ => 0))), (q5, .inl ((jcy Γ) 0, 6, .inl (fun _ => 0))), (q6, .inl ((jcy Γ) 0, 6, .inl (fun _ => 0))), (q7, .inl ((jcy Γ) 0, 6, .inl (fun _ => 0))), (q8, .inl ((jcy Γ) 0, 7, .inl (fun _ => 0))), (q9, .inl ((jcy Γ) 0, 7, .inl (fun _ => 0))), (q10, .inl ((jcy Γ) 0, 7, .inl (fun _ => 0))), (q11, .inl ((jcy Γ) 0, 3, .inl (fun _ => 0))), (q12, .inl ((jcy Γ) 0, 12, .inl (fun _ => 0))), (q13, .inl ((jcy Γ) 0, 480, .inl (fun _ => 0)))] 13 1104 106 [(0, .ref h0)] [.ref q13, .ref h0] _
  refine c_put (ws' := [(h0, .inr (6, [.ref q1, .ref q2, .ref q3, .ref q4, .ref q5, .ref q6, .ref q7, .int 0, .ref q8, .ref q9, .ref q10, .int 0, .ref q11, .ref q12, .ref q13, .int 0, .int 0, .long 0, .long 0, .int 0, .null, .null, .int 0, .null, .int 0, .null, .int 0, .null, .null, .null, .null, .null, .long 0])), (q1, .inl ((jcy Γ) 0, 6, .inl (fun _ => 0))), (q2, .inl ((jcy Γ) 0, 240, .inl (fun _ => 0))), (q3, .inl ((jcy Γ) 0, 4, .inl (fun _ => 0))), (q4, .inl ((jcy Γ) 0, 320, .inl (fun _ => 0))), (q5, .inl ((jcy Γ) 0, 6, .inl (fun _ => 0))), (q6, .inl ((jcy Γ) 0, 6, .inl (fun _ => 0))), (q7, .inl ((jcy Γ) 0, 6, .inl (fun _ => 0))), (q8, .inl ((jcy Γ) 0, 7, .inl (fun _ => 0))), (q9, .inl ((jcy Γ) 0, 7, .inl (fun _ => 0))), (q10, .inl ((jcy Γ) 0, 7, .inl (fun _ => 0))), (q11, .inl ((jcy Γ) 0, 3, .inl (fun _ => 0))), (q12, .inl ((jcy Γ) 0, 12, .inl (fun _ => 0))), (q13, .inl ((jcy Γ) 0, 480, .inl (fun _ => 0)))]) (k0 := 14) 0 (pc' := 109) hC hin dX6_init_106 rfl cls6 (by decide) fi_X6_46.2.2.1 rfl rfl ⟨rfl, rfl⟩ rfl (Nat.le_of_ble_eq_true rfl) rfl ?_
  refine c_aload_n 0 (pc' := 110) hC dX6_init_109 rfl rfl ?_
  refine c_lconst (v := 1) (pc' := 111) hC dX6_init_110 rfl rfl ?_
  refine c_put (ws' := [(h0, .inr (6, [.ref q1, .ref q2, .ref q3, .ref q4, .ref q5, .ref q6, .ref q7, .int 0, .ref q8, .ref q9, .ref q10, .int 0, .ref q11, .ref q12, .ref q13, .int 0, .int 0, .long 0, .long 1, .int 0, .null, .null, .int 0, .null, .int 0, .null, .int 0, .null, .null, .null, .null, .null, .long 0])), (q1, .inl ((jcy Γ) 0, 6, .inl (fun _ => 0))), (q2, .inl ((jcy Γ) 0, 240, .inl (fun _ => 0))), (q3, .inl ((jcy Γ) 0, 4, .inl (fun _ => 0))), (q4, .inl ((jcy Γ) 0, 320, .inl (fun _ => 0))), (q5, .inl ((jcy Γ) 0, 6, .inl (fun _ => 0))), (q6, .inl ((jcy Γ) 0, 6, .inl (fun _ => 0))), (q7, .inl ((jcy Γ) 0, 6, .inl (fun _ => 0))), (q8, .inl ((jcy Γ) 0, 7, .inl (fun _ => 0))), (q9, .inl ((jcy Γ) 0, 7, .inl (fun _ => 0))), (q10, .inl ((jcy Γ) 0, 7, .inl (fun _ => 0))), (q11, .inl ((jcy Γ) 0, 3, .inl (fun _ => 0))), (q12, .inl ((jcy Γ) 0, 12, .inl (fun _ => 0))), (q13, .inl ((jcy Γ) 0, 480, .inl (fun _ => 0)))]) (k0 := 18) 0 (pc' := 114) hC hin dX6_init_111 rfl cls6 (by decide) fi_X6_49.2.2.1 rfl rfl ⟨rfl, rfl⟩ rfl (Nat.le_of_ble_eq_true rfl) rfl ?_
  refine c_aload_n 0 (pc' := 115) hC dX6_init_114 rfl rfl ?_
  refine c_bipush (v := 6) (pc' := 117) hC dX6_init_115 rfl rfl ?_
  refine c_new0 (N := 6) (pc' := 119) hC dX6_init_117 rfl ac_int ⟨by decide, rfl, by decide⟩ ⟨Nat.le_of_ble_eq_true rfl, Nat.le_of_ble_eq_true rfl⟩ (fun q14 => ?_)
  show cJ Γ [(h0, .inr (6, [.ref q1, .ref q2, .ref q3, .ref q4, .ref q5, .ref q6, .ref q7, .int 0, .ref q8, .ref q9, .ref q10, .int 0, .ref q11, .ref q12, .ref q13, .int 0, .int 0, .long 0, .long 1, .int 0, .null, .null, .int 0, .null, .int 0, .null, .int 0, .null, .null, .null, .null, .null, .long 0])), (q1, .inl ((jcy Γ) 0, 6, .inl (fun _ => 0))), (q2, .inl ((jcy Γ) 0, 240, .inl (fun _ => 0))), (q3, .inl ((jcy Γ) 0, 4, .inl (fun _ => 0))), (q4, .inl ((jcy Γ) 0, 320, .inl (fun _ => 0))), (q5, .inl ((jcy Γ) 0, 6, .inl (fun _ => 0))), (q6, .inl ((jcy Γ) 0, 6, .inl (fun _ => 0))), (q7, .inl ((jcy Γ) 0, 6, .inl (fun _ => 0))), (q8, .inl ((jcy Γ) 0, 7, .inl (fun _ => 0))), (q9, .inl ((jcy Γ) 0, 7, .inl (fun _ => 0))), (q10, .inl ((jcy Γ) 0, 7, .inl (fun _ => 0))), (q11, .inl ((jcy Γ) 0, 3, .inl (fun _ => 0))), (q12, .inl ((jcy Γ) 0, 12, .inl (fun _ => 0))), (q13, .inl ((jcy Γ) 0, 480, .inl (fun _ => 0))), (q14, .inl ((jcy Γ) 0, 6, .inl (fun _ => 0)))] 14 1110 119 [(0, .ref h0)] [.ref q14, .ref h0] _
  refine c_put (ws' := [(h0, .inr (6, [.ref q1, .ref q2, .ref q3, .ref q4, .ref q5, .ref q6, .ref q7, .int 0, .ref q8, .ref q9, .ref q10, .int 0, .ref q11, .ref q12, .ref q13, .int 0, .int 0, .long 0, .long 1, .int 0, .ref q14, .null, .int 0, .null, .int 0, .null, .int 0, .null, .null, .null, .null, .null, .long 0])), (q1, .inl ((jcy Γ) 0, 6, .inl (fun _ => 0))), (q2, .inl ((jcy Γ) 0, 240, .inl (fun _ => 0))), (q3, .inl ((jcy Γ) 0, 4, .inl (fun _ => 0))), (q4, .inl ((jcy Γ) 0, 320, .inl (fun _ => 0))), (q5, .inl ((jcy Γ) 0, 6, .inl (fun _ => 0))), (q6, .inl ((jcy Γ) 0, 6, .inl (fun _ => 0))), (q7, .inl ((jcy Γ) 0, 6, .inl (fun _ => 0))), (q8, .inl ((jcy Γ) 0, 7, .inl (fun _ => 0))), (q9, .inl ((jcy Γ) 0, 7, .inl (fun _ => 0))), (q10, .inl ((jcy Γ) 0, 7, .inl (fun _ => 0))), (q11, .inl ((jcy Γ) 0, 3, .inl (fun _ => 0))), (q12, .inl ((jcy Γ) 0, 12, .inl (fun _ => 0))), (q13, .inl ((jcy Γ) 0, 480, .inl (fun _ => 0))), (q14, .inl ((jcy Γ) 0, 6, .inl (fun _ => 0)))]) (k0 := 20) 0 (pc' := 122) hC hin dX6_init_119 rfl cls6 (by decide) fi_X6_53.2.2.1 rfl rfl ⟨rfl, rfl⟩ rfl (Nat.le_of_ble_eq_true rfl) rfl ?_
  refine c_aload_n 0 (pc' := 123) hC dX6_init_122 rfl rfl ?_
  refine c_bipush (v := 40) (pc' := 125) hC dX6_init_123 rfl rfl ?_
  refine c_new0 (N := 40) (pc' := 127) hC dX6_init_125 rfl ac_int ⟨by decide, rfl, by decide⟩ ⟨Nat.le_of_ble_eq_true rfl, Nat.le_of_ble_eq_true rfl⟩ (fun q15 => ?_)
  show cJ Γ [(h0, .inr (6, [.ref q1, .ref q2, .ref q3, .ref q4, .ref q5, .ref q6, .ref q7, .int 0, .ref q8, .ref q9, .ref q10, .int 0, .ref q11, .ref q12, .ref q13, .int 0, .int 0, .long 0, .long 1, .int 0, .ref q14, .null, .int 0, .null, .int 0, .null, .int 0, .null, .null, .null, .null, .null, .long 0])), (q1, .inl ((jcy Γ) 0, 6, .inl (fun _ => 0))), (q2, .inl ((jcy Γ) 0, 240, .inl (fun _ => 0))), (q3, .inl ((jcy Γ) 0, 4, .inl (fun _ => 0))), (q4, .inl ((jcy Γ) 0, 320, .inl (fun _ => 0))), (q5, .inl ((jcy Γ) 0, 6, .inl (fun _ => 0))), (q6, .inl ((jcy Γ) 0, 6, .inl (fun _ => 0))), (q7, .inl ((jcy Γ) 0, 6, .inl (fun _ => 0))), (q8, .inl ((jcy Γ) 0, 7, .inl (fun _ => 0))), (q9, .inl ((jcy Γ) 0, 7, .inl (fun _ => 0))), (q10, .inl ((jcy Γ) 0, 7, .inl (fun _ => 0))), (q11, .inl ((jcy Γ) 0, 3, .inl (fun _ => 0))), (q12, .inl ((jcy Γ) 0, 12, .inl (fun _ => 0))), (q13, .inl ((jcy Γ) 0, 480, .inl (fun _ => 0))), (q14, .inl ((jcy Γ) 0, 6, .inl (fun _ => 0))), (q15, .inl ((jcy Γ) 0, 40, .inl (fun _ => 0)))] 15 1150 127 [(0, .ref h0)] [.ref q15, .ref h0] _
  refine c_put (ws' := [(h0, .inr (6, [.ref q1, .ref q2, .ref q3, .ref q4, .ref q5, .ref q6, .ref q7, .int 0, .ref q8, .ref q9, .ref q10, .int 0, .ref q11, .ref q12, .ref q13, .int 0, .int 0, .long 0, .long 1, .int 0, .ref q14, .ref q15, .int 0, .null, .int 0, .null, .int 0, .null, .null, .null, .null, .null, .long 0])), (q1, .inl ((jcy Γ) 0, 6, .inl (fun _ => 0))), (q2, .inl ((jcy Γ) 0, 240, .inl (fun _ => 0))), (q3, .inl ((jcy Γ) 0, 4, .inl (fun _ => 0))), (q4, .inl ((jcy Γ) 0, 320, .inl (fun _ => 0))), (q5, .inl ((jcy Γ) 0, 6, .inl (fun _ => 0))), (q6, .inl ((jcy Γ) 0, 6, .inl (fun _ => 0))), (q7, .inl ((jcy Γ) 0, 6, .inl (fun _ => 0))), (q8, .inl ((jcy Γ) 0, 7, .inl (fun _ => 0))), (q9, .inl ((jcy Γ) 0, 7, .inl (fun _ => 0))), (q10, .inl ((jcy Γ) 0, 7, .inl (fun _ => 0))), (q11, .inl ((jcy Γ) 0, 3, .inl (fun _ => 0))), (q12, .inl ((jcy Γ) 0, 12, .inl (fun _ => 0))), (q13, .inl ((jcy Γ) 0, 480, .inl (fun _ => 0))), (q14, .inl ((jcy Γ) 0, 6, .inl (fun _ => 0))), (q15, .inl ((jcy Γ) 0, 40, .inl (fun _ => 0)))]) (k0 := 21) 0 (pc' := 130) hC hin dX6_init_127 rfl cls6 (by decide) fi_X6_56.2.2.1 rfl rfl ⟨rfl, rfl⟩ rfl (Nat.le_of_ble_eq_true rfl) rfl ?_
  refine c_aload_n 0 (pc' := 131) hC dX6_init_130 rfl rfl ?_
  refine c_bipush (v := 18) (pc' := 133) hC dX6_init_131 rfl rfl ?_
  refine c_new0 (N := 18) (pc' := 135) hC dX6_init_133 rfl ac_int ⟨by decide, rfl, by decide⟩ ⟨Nat.le_of_ble_eq_true rfl, Nat.le_of_ble_eq_true rfl⟩ (fun q16 => ?_)
  show cJ Γ [(h0, .inr (6, [.ref q1, .ref q2, .ref q3, .ref q4, .ref q5, .ref q6, .ref q7, .int 0, .ref q8, .ref q9, .ref q10, .int 0, .ref q11, .ref q12, .ref q13, .int 0, .int 0, .long 0, .long 1, .int 0, .ref q14, .ref q15, .int 0, .null, .int 0, .null, .int 0, .null, .null, .null, .null, .null, .long 0])), (q1, .inl ((jcy Γ) 0, 6, .inl (fun _ => 0))), (q2, .inl ((jcy Γ) 0, 240, .inl (fun _ => 0))), (q3, .inl ((jcy Γ) 0, 4, .inl (fun _ => 0))), (q4, .inl ((jcy Γ) 0, 320, .inl (fun _ => 0))), (q5, .inl ((jcy Γ) 0, 6, .inl (fun _ => 0))), (q6, .inl ((jcy Γ) 0, 6, .inl (fun _ => 0))), (q7, .inl ((jcy Γ) 0, 6, .inl (fun _ => 0))), (q8, .inl ((jcy Γ) 0, 7, .inl (fun _ => 0))), (q9, .inl ((jcy Γ) 0, 7, .inl (fun _ => 0))), (q10, .inl ((jcy Γ) 0, 7, .inl (fun _ => 0))), (q11, .inl ((jcy Γ) 0, 3, .inl (fun _ => 0))), (q12, .inl ((jcy Γ) 0, 12, .inl (fun _ => 0))), (q13, .inl ((jcy Γ) 0, 480, .inl (fun _ => 0))), (q14, .inl ((jcy Γ) 0, 6, .inl (fun _ => 0))), (q15, .inl ((jcy Γ) 0, 40, .inl (fun _ => 0))), (q16, .inl ((jcy Γ) 0, 18, .inl (fun _ => 0)))] 16 1168 135 [(0, .ref h0)] [.ref q16, .ref h0] _
  refine c_put (ws' := [(h0, .inr (6, [.ref q1, .ref q2, .ref q3, .ref q4, .ref q5, .ref q6, .ref q7, .int 0, .ref q8, .ref q9, .ref q10, .int 0, .ref q11, .ref q12, .ref q13, .int 0, .int 0, .long 0, .long 1, .int 0, .ref q14, .ref q15, .int 0, .ref q16, .int 0, .null, .int 0, .null, .null, .null, .null, .null, .long 0])), (q1, .inl ((jcy Γ) 0, 6, .inl (fun _ => 0))), (q2, .inl ((jcy Γ) 0, 240, .inl (fun _ => 0))), (q3, .inl ((jcy Γ) 0, 4, .inl (fun _ => 0))), (q4, .inl ((jcy Γ) 0, 320, .inl (fun _ => 0))), (q5, .inl ((jcy Γ) 0, 6, .inl (fun _ => 0))), (q6, .inl ((jcy Γ) 0, 6, .inl (fun _ => 0))), (q7, .inl ((jcy Γ) 0, 6, .inl (fun _ => 0))), (q8, .inl ((jcy Γ) 0, 7, .inl (fun _ => 0))), (q9, .inl ((jcy Γ) 0, 7, .inl (fun _ => 0))), (q10, .inl ((jcy Γ) 0, 7, .inl (fun _ => 0))), (q11, .inl ((jcy Γ) 0, 3, .inl (fun _ => 0))), (q12, .inl ((jcy Γ) 0, 12, .inl (fun _ => 0))), (q13, .inl ((jcy Γ) 0, 480, .inl (fun _ => 0))), (q14, .inl ((jcy Γ) 0, 6, .inl (fun _ => 0))), (q15, .inl ((jcy Γ) 0, 40, .inl (fun _ => 0))), (q16, .inl ((jcy Γ) 0, 18, .inl (fun _ => 0)))]) (k0 := 23) 0 (pc' := 138) hC hin dX6_init_135 rfl cls6 (by decide) fi_X6_59.2.2.1 rfl rfl ⟨rfl, rfl⟩ rfl (Nat.le_of_ble_eq_true rfl) rfl ?_
  refine c_aload_n 0 (pc' := 139) hC dX6_init_138 rfl rfl ?_
  refine c_bipush (v := 21) (pc' := 141) hC dX6_init_139 rfl rfl ?_
  refine c_new0 (N := 21) (pc' := 143) hC dX6_init_141 rfl ac_int ⟨by decide, rfl, by decide⟩ ⟨Nat.le_of_ble_eq_true rfl, Nat.le_of_ble_eq_true rfl⟩ (fun q17 => ?_)
  show cJ Γ [(h0, .inr (6, [.ref q1, .ref q2, .ref q3, .ref q4, .ref q5, .ref q6, .ref q7, .int 0, .ref q8, .ref q9, .ref q10, .int 0, .ref q11, .ref q12, .ref q13, .int 0, .int 0, .long 0, .long 1, .int 0, .ref q14, .ref q15, .int 0, .ref q16, .int 0, .null, .int 0, .null, .null, .null, .null, .null, .long 0])), (q1, .inl ((jcy Γ) 0, 6, .inl (fun _ => 0))), (q2, .inl ((jcy Γ) 0, 240, .inl (fun _ => 0))), (q3, .inl ((jcy Γ) 0, 4, .inl (fun _ => 0))), (q4, .inl ((jcy Γ) 0, 320, .inl (fun _ => 0))), (q5, .inl ((jcy Γ) 0, 6, .inl (fun _ => 0))), (q6, .inl ((jcy Γ) 0, 6, .inl (fun _ => 0))), (q7, .inl ((jcy Γ) 0, 6, .inl (fun _ => 0))), (q8, .inl ((jcy Γ) 0, 7, .inl (fun _ => 0))), (q9, .inl ((jcy Γ) 0, 7, .inl (fun _ => 0))), (q10, .inl ((jcy Γ) 0, 7, .inl (fun _ => 0))), (q11, .inl ((jcy Γ) 0, 3, .inl (fun _ => 0))), (q12, .inl ((jcy Γ) 0, 12, .inl (fun _ => 0))), (q13, .inl ((jcy Γ) 0, 480, .inl (fun _ => 0))), (q14, .inl ((jcy Γ) 0, 6, .inl (fun _ => 0))), (q15, .inl ((jcy Γ) 0, 40, .inl (fun _ => 0))), (q16, .inl ((jcy Γ) 0, 18, .inl (fun _ => 0))), (q17, .inl ((jcy Γ) 0, 21, .inl (fun _ => 0)))] 17 1189 143 [(0, .ref h0)] [.ref q17, .ref h0] _
  refine c_put (ws' := [(h0, .inr (6, [.ref q1, .ref q2, .ref q3, .ref q4, .ref q5, .ref q6, .ref q7, .int 0, .ref q8, .ref q9, .ref q10, .int 0, .ref q11, .ref q12, .ref q13, .int 0, .int 0, .long 0, .long 1, .int 0, .ref q14, .ref q15, .int 0, .ref q16, .int 0, .ref q17, .int 0, .null, .null, .null, .null, .null, .long 0])), (q1, .inl ((jcy Γ) 0, 6, .inl (fun _ => 0))), (q2, .inl ((jcy Γ) 0, 240, .inl (fun _ => 0))), (q3, .inl ((jcy Γ) 0, 4, .inl (fun _ => 0))), (q4, .inl ((jcy Γ) 0, 320, .inl (fun _ => 0))), (q5, .inl ((jcy Γ) 0, 6, .inl (fun _ => 0))), (q6, .inl ((jcy Γ) 0, 6, .inl (fun _ => 0))), (q7, .inl ((jcy Γ) 0, 6, .inl (fun _ => 0))), (q8, .inl ((jcy Γ) 0, 7, .inl (fun _ => 0))), (q9, .inl ((jcy Γ) 0, 7, .inl (fun _ => 0))), (q10, .inl ((jcy Γ) 0, 7, .inl (fun _ => 0))), (q11, .inl ((jcy Γ) 0, 3, .inl (fun _ => 0))), (q12, .inl ((jcy Γ) 0, 12, .inl (fun _ => 0))), (q13, .inl ((jcy Γ) 0, 480, .inl (fun _ => 0))), (q14, .inl ((jcy Γ) 0, 6, .inl (fun _ => 0))), (q15, .inl ((jcy Γ) 0, 40, .inl (fun _ => 0))), (q16, .inl ((jcy Γ) 0, 18, .inl (fun _ => 0))), (q17, .inl ((jcy Γ) 0, 21, .inl (fun _ => 0)))]) (k0 := 25) 0 (pc' := 146) hC hin dX6_init_143 rfl cls6 (by decide) fi_X6_62.2.2.1 rfl rfl ⟨rfl, rfl⟩ rfl (Nat.le_of_ble_eq_true rfl) rfl ?_
  refine c_aload_n 0 (pc' := 147) hC dX6_init_146 rfl rfl ?_
  refine c_iconst (v := 3) (pc' := 148) hC dX6_init_147 rfl rfl ?_
  refine c_new2 (N := 3) (pc' := 150) hC dX6_init_148 rfl ac_boolean ⟨by decide, rfl, by decide⟩ ⟨Nat.le_of_ble_eq_true rfl, Nat.le_of_ble_eq_true rfl⟩ (fun q18 => ?_)
  show cJ Γ [(h0, .inr (6, [.ref q1, .ref q2, .ref q3, .ref q4, .ref q5, .ref q6, .ref q7, .int 0, .ref q8, .ref q9, .ref q10, .int 0, .ref q11, .ref q12, .ref q13, .int 0, .int 0, .long 0, .long 1, .int 0, .ref q14, .ref q15, .int 0, .ref q16, .int 0, .ref q17, .int 0, .null, .null, .null, .null, .null, .long 0])), (q1, .inl ((jcy Γ) 0, 6, .inl (fun _ => 0))), (q2, .inl ((jcy Γ) 0, 240, .inl (fun _ => 0))), (q3, .inl ((jcy Γ) 0, 4, .inl (fun _ => 0))), (q4, .inl ((jcy Γ) 0, 320, .inl (fun _ => 0))), (q5, .inl ((jcy Γ) 0, 6, .inl (fun _ => 0))), (q6, .inl ((jcy Γ) 0, 6, .inl (fun _ => 0))), (q7, .inl ((jcy Γ) 0, 6, .inl (fun _ => 0))), (q8, .inl ((jcy Γ) 0, 7, .inl (fun _ => 0))), (q9, .inl ((jcy Γ) 0, 7, .inl (fun _ => 0))), (q10, .inl ((jcy Γ) 0, 7, .inl (fun _ => 0))), (q11, .inl ((jcy Γ) 0, 3, .inl (fun _ => 0))), (q12, .inl ((jcy Γ) 0, 12, .inl (fun _ => 0))), (q13, .inl ((jcy Γ) 0, 480, .inl (fun _ => 0))), (q14, .inl ((jcy Γ) 0, 6, .inl (fun _ => 0))), (q15, .inl ((jcy Γ) 0, 40, .inl (fun _ => 0))), (q16, .inl ((jcy Γ) 0, 18, .inl (fun _ => 0))), (q17, .inl ((jcy Γ) 0, 21, .inl (fun _ => 0))), (q18, .inl ((jcy Γ) 2, 3, .inl (fun _ => 0)))] 18 1192 150 [(0, .ref h0)] [.ref q18, .ref h0] _
  refine c_put (ws' := [(h0, .inr (6, [.ref q1, .ref q2, .ref q3, .ref q4, .ref q5, .ref q6, .ref q7, .int 0, .ref q8, .ref q9, .ref q10, .int 0, .ref q11, .ref q12, .ref q13, .int 0, .int 0, .long 0, .long 1, .int 0, .ref q14, .ref q15, .int 0, .ref q16, .int 0, .ref q17, .int 0, .ref q18, .null, .null, .null, .null, .long 0])), (q1, .inl ((jcy Γ) 0, 6, .inl (fun _ => 0))), (q2, .inl ((jcy Γ) 0, 240, .inl (fun _ => 0))), (q3, .inl ((jcy Γ) 0, 4, .inl (fun _ => 0))), (q4, .inl ((jcy Γ) 0, 320, .inl (fun _ => 0))), (q5, .inl ((jcy Γ) 0, 6, .inl (fun _ => 0))), (q6, .inl ((jcy Γ) 0, 6, .inl (fun _ => 0))), (q7, .inl ((jcy Γ) 0, 6, .inl (fun _ => 0))), (q8, .inl ((jcy Γ) 0, 7, .inl (fun _ => 0))), (q9, .inl ((jcy Γ) 0, 7, .inl (fun _ => 0))), (q10, .inl ((jcy Γ) 0, 7, .inl (fun _ => 0))), (q11, .inl ((jcy Γ) 0, 3, .inl (fun _ => 0))), (q12, .inl ((jcy Γ) 0, 12, .inl (fun _ => 0))), (q13, .inl ((jcy Γ) 0, 480, .inl (fun _ => 0))), (q14, .inl ((jcy Γ) 0, 6, .inl (fun _ => 0))), (q15, .inl ((jcy Γ) 0, 40, .inl (fun _ => 0))), (q16, .inl ((jcy Γ) 0, 18, .inl (fun _ => 0))), (q17, .inl ((jcy Γ) 0, 21, .inl (fun _ => 0))), (q18, .inl ((jcy Γ) 2, 3, .inl (fun _ => 0)))]) (k0 := 27) 0 (pc' := 153) hC hin dX6_init_150 rfl cls6 (by decide) fi_X6_65.2.2.1 rfl rfl ⟨rfl, rfl⟩ rfl (Nat.le_of_ble_eq_true rfl) rfl ?_
  refine c_aload_n 0 (pc' := 154) hC dX6_init_153 rfl rfl ?_
  refine c_sipush (v := 1488) (pc' := 157) hC dX6_init_154 rfl rfl ?_
  refine c_new0 (N := 1488) (pc' := 159) hC dX6_init_157 rfl ac_int ⟨by decide, rfl, by decide⟩ ⟨Nat.le_of_ble_eq_true rfl, Nat.le_of_ble_eq_true rfl⟩ (fun q19 => ?_)
  show cJ Γ [(h0, .inr (6, [.ref q1, .ref q2, .ref q3, .ref q4, .ref q5, .ref q6, .ref q7, .int 0, .ref q8, .ref q9, .ref q10, .int 0, .ref q11, .ref q12, .ref q13, .int 0, .int 0, .long 0, .long 1, .int 0, .ref q14, .ref q15, .int 0, .ref q16, .int 0, .ref q17, .int 0, .ref q18, .null, .null, .null, .null, .long 0])), (q1, .inl ((jcy Γ) 0, 6, .inl (fun _ => 0))), (q2, .inl ((jcy Γ) 0, 240, .inl (fun _ => 0))), (q3, .inl ((jcy Γ) 0, 4, .inl (fun _ => 0))), (q4, .inl ((jcy Γ) 0, 320, .inl (fun _ => 0))), (q5, .inl ((jcy Γ) 0, 6, .inl (fun _ => 0))), (q6, .inl ((jcy Γ) 0, 6, .inl (fun _ => 0))), (q7, .inl ((jcy Γ) 0, 6, .inl (fun _ => 0))), (q8, .inl ((jcy Γ) 0, 7, .inl (fun _ => 0))), (q9, .inl ((jcy Γ) 0, 7, .inl (fun _ => 0))), (q10, .inl ((jcy Γ) 0, 7, .inl (fun _ => 0))), (q11, .inl ((jcy Γ) 0, 3, .inl (fun _ => 0))), (q12, .inl ((jcy Γ) 0, 12, .inl (fun _ => 0))), (q13, .inl ((jcy Γ) 0, 480, .inl (fun _ => 0))), (q14, .inl ((jcy Γ) 0, 6, .inl (fun _ => 0))), (q15, .inl ((jcy Γ) 0, 40, .inl (fun _ => 0))), (q16, .inl ((jcy Γ) 0, 18, .inl (fun _ => 0))), (q17, .inl ((jcy Γ) 0, 21, .inl (fun _ => 0))), (q18, .inl ((jcy Γ) 2, 3, .inl (fun _ => 0))), (q19, .inl ((jcy Γ) 0, 1488, .inl (fun _ => 0)))] 19 2680 159 [(0, .ref h0)] [.ref q19, .ref h0] _
  refine c_put (ws' := [(h0, .inr (6, [.ref q1, .ref q2, .ref q3, .ref q4, .ref q5, .ref q6, .ref q7, .int 0, .ref q8, .ref q9, .ref q10, .int 0, .ref q11, .ref q12, .ref q13, .int 0, .int 0, .long 0, .long 1, .int 0, .ref q14, .ref q15, .int 0, .ref q16, .int 0, .ref q17, .int 0, .ref q18, .ref q19, .null, .null, .null, .long 0])), (q1, .inl ((jcy Γ) 0, 6, .inl (fun _ => 0))), (q2, .inl ((jcy Γ) 0, 240, .inl (fun _ => 0))), (q3, .inl ((jcy Γ) 0, 4, .inl (fun _ => 0))), (q4, .inl ((jcy Γ) 0, 320, .inl (fun _ => 0))), (q5, .inl ((jcy Γ) 0, 6, .inl (fun _ => 0))), (q6, .inl ((jcy Γ) 0, 6, .inl (fun _ => 0))), (q7, .inl ((jcy Γ) 0, 6, .inl (fun _ => 0))), (q8, .inl ((jcy Γ) 0, 7, .inl (fun _ => 0))), (q9, .inl ((jcy Γ) 0, 7, .inl (fun _ => 0))), (q10, .inl ((jcy Γ) 0, 7, .inl (fun _ => 0))), (q11, .inl ((jcy Γ) 0, 3, .inl (fun _ => 0))), (q12, .inl ((jcy Γ) 0, 12, .inl (fun _ => 0))), (q13, .inl ((jcy Γ) 0, 480, .inl (fun _ => 0))), (q14, .inl ((jcy Γ) 0, 6, .inl (fun _ => 0))), (q15, .inl ((jcy Γ) 0, 40, .inl (fun _ => 0))), (q16, .inl ((jcy Γ) 0, 18, .inl (fun _ => 0))), (q17, .inl ((jcy Γ) 0, 21, .inl (fun _ => 0))), (q18, .inl ((jcy Γ) 2, 3, .inl (fun _ => 0))), (q19, .inl ((jcy Γ) 0, 1488, .inl (fun _ => 0)))]) (k0 := 28) 0 (pc' := 162) hC hin dX6_init_159 rfl cls6 (by decide) fi_X6_69.2.2.1 rfl rfl ⟨rfl, rfl⟩ rfl (Nat.le_of_ble_eq_true rfl) rfl ?_
  refine c_aload_n 0 (pc' := 163) hC dX6_init_162 rfl rfl ?_
  refine c_sipush (v := 24576) (pc' := 166) hC dX6_init_163 rfl rfl ?_
  refine c_new2 (N := 24576) (pc' := 168) hC dX6_init_166 rfl ac_boolean ⟨by decide, rfl, by decide⟩ ⟨Nat.le_of_ble_eq_true rfl, Nat.le_of_ble_eq_true rfl⟩ (fun q20 => ?_)
  show cJ Γ [(h0, .inr (6, [.ref q1, .ref q2, .ref q3, .ref q4, .ref q5, .ref q6, .ref q7, .int 0, .ref q8, .ref q9, .ref q10, .int 0, .ref q11, .ref q12, .ref q13, .int 0, .int 0, .long 0, .long 1, .int 0, .ref q14, .ref q15, .int 0, .ref q16, .int 0, .ref q17, .int 0, .ref q18, .ref q19, .null, .null, .null, .long 0])), (q1, .inl ((jcy Γ) 0, 6, .inl (fun _ => 0))), (q2, .inl ((jcy Γ) 0, 240, .inl (fun _ => 0))), (q3, .inl ((jcy Γ) 0, 4, .inl (fun _ => 0))), (q4, .inl ((jcy Γ) 0, 320, .inl (fun _ => 0))), (q5, .inl ((jcy Γ) 0, 6, .inl (fun _ => 0))), (q6, .inl ((jcy Γ) 0, 6, .inl (fun _ => 0))), (q7, .inl ((jcy Γ) 0, 6, .inl (fun _ => 0))), (q8, .inl ((jcy Γ) 0, 7, .inl (fun _ => 0))), (q9, .inl ((jcy Γ) 0, 7, .inl (fun _ => 0))), (q10, .inl ((jcy Γ) 0, 7, .inl (fun _ => 0))), (q11, .inl ((jcy Γ) 0, 3, .inl (fun _ => 0))), (q12, .inl ((jcy Γ) 0, 12, .inl (fun _ => 0))), (q13, .inl ((jcy Γ) 0, 480, .inl (fun _ => 0))), (q14, .inl ((jcy Γ) 0, 6, .inl (fun _ => 0))), (q15, .inl ((jcy Γ) 0, 40, .inl (fun _ => 0))), (q16, .inl ((jcy Γ) 0, 18, .inl (fun _ => 0))), (q17, .inl ((jcy Γ) 0, 21, .inl (fun _ => 0))), (q18, .inl ((jcy Γ) 2, 3, .inl (fun _ => 0))), (q19, .inl ((jcy Γ) 0, 1488, .inl (fun _ => 0))), (q20, .inl ((jcy Γ) 2, 24576, .inl (fun _ => 0)))] 20 27256 168 [(0, .ref h0)] [.ref q20, .ref h0] _
  refine c_put (ws' := [(h0, .inr (6, [.ref q1, .ref q2, .ref q3, .ref q4, .ref q5, .ref q6, .ref q7, .int 0, .ref q8, .ref q9, .ref q10, .int 0, .ref q11, .ref q12, .ref q13, .int 0, .int 0, .long 0, .long 1, .int 0, .ref q14, .ref q15, .int 0, .ref q16, .int 0, .ref q17, .int 0, .ref q18, .ref q19, .ref q20, .null, .null, .long 0])), (q1, .inl ((jcy Γ) 0, 6, .inl (fun _ => 0))), (q2, .inl ((jcy Γ) 0, 240, .inl (fun _ => 0))), (q3, .inl ((jcy Γ) 0, 4, .inl (fun _ => 0))), (q4, .inl ((jcy Γ) 0, 320, .inl (fun _ => 0))), (q5, .inl ((jcy Γ) 0, 6, .inl (fun _ => 0))), (q6, .inl ((jcy Γ) 0, 6, .inl (fun _ => 0))), (q7, .inl ((jcy Γ) 0, 6, .inl (fun _ => 0))), (q8, .inl ((jcy Γ) 0, 7, .inl (fun _ => 0))), (q9, .inl ((jcy Γ) 0, 7, .inl (fun _ => 0))), (q10, .inl ((jcy Γ) 0, 7, .inl (fun _ => 0))), (q11, .inl ((jcy Γ) 0, 3, .inl (fun _ => 0))), (q12, .inl ((jcy Γ) 0, 12, .inl (fun _ => 0))), (q13, .inl ((jcy Γ) 0, 480, .inl (fun _ => 0))), (q14, .inl ((jcy Γ) 0, 6, .inl (fun _ => 0))), (q15, .inl ((jcy Γ) 0, 40, .inl (fun _ => 0))), (q16, .inl ((jcy Γ) 0, 18, .inl (fun _ => 0))), (q17, .inl ((jcy Γ) 0, 21, .inl (fun _ => 0))), (q18, .inl ((jcy Γ) 2, 3, .inl (fun _ => 0))), (q19, .inl ((jcy Γ) 0, 1488, .inl (fun _ => 0))), (q20, .inl ((jcy Γ) 2, 24576, .inl (fun _ => 0)))]) (k0 := 29) 0 (pc' := 171) hC hin dX6_init_168 rfl cls6 (by decide) fi_X6_72.2.2.1 rfl rfl ⟨rfl, rfl⟩ rfl (Nat.le_of_ble_eq_true rfl) rfl ?_
  refine c_aload_n 0 (pc' := 172) hC dX6_init_171 rfl rfl ?_
  refine c_sipush (v := 24576) (pc' := 175) hC dX6_init_172 rfl rfl ?_
  refine c_new0 (N := 24576) (pc' := 177) hC dX6_init_175 rfl ac_int ⟨by decide, rfl, by decide⟩ ⟨Nat.le_of_ble_eq_true rfl, Nat.le_of_ble_eq_true rfl⟩ (fun q21 => ?_)
  show cJ Γ [(h0, .inr (6, [.ref q1, .ref q2, .ref q3, .ref q4, .ref q5, .ref q6, .ref q7, .int 0, .ref q8, .ref q9, .ref q10, .int 0, .ref q11, .ref q12, .ref q13, .int 0, .int 0, .long 0, .long 1, .int 0, .ref q14, .ref q15, .int 0, .ref q16, .int 0, .ref q17, .int 0, .ref q18, .ref q19, .ref q20, .null, .null, .long 0])), (q1, .inl ((jcy Γ) 0, 6, .inl (fun _ => 0))), (q2, .inl ((jcy Γ) 0, 240, .inl (fun _ => 0))), (q3, .inl ((jcy Γ) 0, 4, .inl (fun _ => 0))), (q4, .inl ((jcy Γ) 0, 320, .inl (fun _ => 0))), (q5, .inl ((jcy Γ) 0, 6, .inl (fun _ => 0))), (q6, .inl ((jcy Γ) 0, 6, .inl (fun _ => 0))), (q7, .inl ((jcy Γ) 0, 6, .inl (fun _ => 0))), (q8, .inl ((jcy Γ) 0, 7, .inl (fun _ => 0))), (q9, .inl ((jcy Γ) 0, 7, .inl (fun _ => 0))), (q10, .inl ((jcy Γ) 0, 7, .inl (fun _ => 0))), (q11, .inl ((jcy Γ) 0, 3, .inl (fun _ => 0))), (q12, .inl ((jcy Γ) 0, 12, .inl (fun _ => 0))), (q13, .inl ((jcy Γ) 0, 480, .inl (fun _ => 0))), (q14, .inl ((jcy Γ) 0, 6, .inl (fun _ => 0))), (q15, .inl ((jcy Γ) 0, 40, .inl (fun _ => 0))), (q16, .inl ((jcy Γ) 0, 18, .inl (fun _ => 0))), (q17, .inl ((jcy Γ) 0, 21, .inl (fun _ => 0))), (q18, .inl ((jcy Γ) 2, 3, .inl (fun _ => 0))), (q19, .inl ((jcy Γ) 0, 1488, .inl (fun _ => 0))), (q20, .inl ((jcy Γ) 2, 24576, .inl (fun _ => 0))), (q21, .inl ((jcy Γ) 0, 24576, .inl (fun _ => 0)))] 21 51832 177 [(0, .ref h0)] [.ref q21, .ref h0] _
  refine c_put (ws' := [(h0, .inr (6, [.ref q1, .ref q2, .ref q3, .ref q4, .ref q5, .ref q6, .ref q7, .int 0, .ref q8, .ref q9, .ref q10, .int 0, .ref q11, .ref q12, .ref q13, .int 0, .int 0, .long 0, .long 1, .int 0, .ref q14, .ref q15, .int 0, .ref q16, .int 0, .ref q17, .int 0, .ref q18, .ref q19, .ref q20, .ref q21, .null, .long 0])), (q1, .inl ((jcy Γ) 0, 6, .inl (fun _ => 0))), (q2, .inl ((jcy Γ) 0, 240, .inl (fun _ => 0))), (q3, .inl ((jcy Γ) 0, 4, .inl (fun _ => 0))), (q4, .inl ((jcy Γ) 0, 320, .inl (fun _ => 0))), (q5, .inl ((jcy Γ) 0, 6, .inl (fun _ => 0))), (q6, .inl ((jcy Γ) 0, 6, .inl (fun _ => 0))), (q7, .inl ((jcy Γ) 0, 6, .inl (fun _ => 0))), (q8, .inl ((jcy Γ) 0, 7, .inl (fun _ => 0))), (q9, .inl ((jcy Γ) 0, 7, .inl (fun _ => 0))), (q10, .inl ((jcy Γ) 0, 7, .inl (fun _ => 0))), (q11, .inl ((jcy Γ) 0, 3, .inl (fun _ => 0))), (q12, .inl ((jcy Γ) 0, 12, .inl (fun _ => 0))), (q13, .inl ((jcy Γ) 0, 480, .inl (fun _ => 0))), (q14, .inl ((jcy Γ) 0, 6, .inl (fun _ => 0))), (q15, .inl ((jcy Γ) 0, 40, .inl (fun _ => 0))), (q16, .inl ((jcy Γ) 0, 18, .inl (fun _ => 0))), (q17, .inl ((jcy Γ) 0, 21, .inl (fun _ => 0))), (q18, .inl ((jcy Γ) 2, 3, .inl (fun _ => 0))), (q19, .inl ((jcy Γ) 0, 1488, .inl (fun _ => 0))), (q20, .inl ((jcy Γ) 2, 24576, .inl (fun _ => 0))), (q21, .inl ((jcy Γ) 0, 24576, .inl (fun _ => 0)))]) (k0 := 30) 0 (pc' := 180) hC hin dX6_init_177 rfl cls6 (by decide) fi_X6_75.2.2.1 rfl rfl ⟨rfl, rfl⟩ rfl (Nat.le_of_ble_eq_true rfl) rfl ?_
  refine c_aload_n 0 (pc' := 181) hC dX6_init_180 rfl rfl ?_
  refine c_sipush (v := 128) (pc' := 184) hC dX6_init_181 rfl rfl ?_
  refine c_new0 (N := 128) (pc' := 186) hC dX6_init_184 rfl ac_int ⟨by decide, rfl, by decide⟩ ⟨Nat.le_of_ble_eq_true rfl, Nat.le_of_ble_eq_true rfl⟩ (fun q22 => ?_)
  show cJ Γ [(h0, .inr (6, [.ref q1, .ref q2, .ref q3, .ref q4, .ref q5, .ref q6, .ref q7, .int 0, .ref q8, .ref q9, .ref q10, .int 0, .ref q11, .ref q12, .ref q13, .int 0, .int 0, .long 0, .long 1, .int 0, .ref q14, .ref q15, .int 0, .ref q16, .int 0, .ref q17, .int 0, .ref q18, .ref q19, .ref q20, .ref q21, .null, .long 0])), (q1, .inl ((jcy Γ) 0, 6, .inl (fun _ => 0))), (q2, .inl ((jcy Γ) 0, 240, .inl (fun _ => 0))), (q3, .inl ((jcy Γ) 0, 4, .inl (fun _ => 0))), (q4, .inl ((jcy Γ) 0, 320, .inl (fun _ => 0))), (q5, .inl ((jcy Γ) 0, 6, .inl (fun _ => 0))), (q6, .inl ((jcy Γ) 0, 6, .inl (fun _ => 0))), (q7, .inl ((jcy Γ) 0, 6, .inl (fun _ => 0))), (q8, .inl ((jcy Γ) 0, 7, .inl (fun _ => 0))), (q9, .inl ((jcy Γ) 0, 7, .inl (fun _ => 0))), (q10, .inl ((jcy Γ) 0, 7, .inl (fun _ => 0))), (q11, .inl ((jcy Γ) 0, 3, .inl (fun _ => 0))), (q12, .inl ((jcy Γ) 0, 12, .inl (fun _ => 0))), (q13, .inl ((jcy Γ) 0, 480, .inl (fun _ => 0))), (q14, .inl ((jcy Γ) 0, 6, .inl (fun _ => 0))), (q15, .inl ((jcy Γ) 0, 40, .inl (fun _ => 0))), (q16, .inl ((jcy Γ) 0, 18, .inl (fun _ => 0))), (q17, .inl ((jcy Γ) 0, 21, .inl (fun _ => 0))), (q18, .inl ((jcy Γ) 2, 3, .inl (fun _ => 0))), (q19, .inl ((jcy Γ) 0, 1488, .inl (fun _ => 0))), (q20, .inl ((jcy Γ) 2, 24576, .inl (fun _ => 0))), (q21, .inl ((jcy Γ) 0, 24576, .inl (fun _ => 0))), (q22, .inl ((jcy Γ) 0, 128, .inl (fun _ => 0)))] 22 51960 186 [(0, .ref h0)] [.ref q22, .ref h0] _
  refine c_put (ws' := [(h0, .inr (6, [.ref q1, .ref q2, .ref q3, .ref q4, .ref q5, .ref q6, .ref q7, .int 0, .ref q8, .ref q9, .ref q10, .int 0, .ref q11, .ref q12, .ref q13, .int 0, .int 0, .long 0, .long 1, .int 0, .ref q14, .ref q15, .int 0, .ref q16, .int 0, .ref q17, .int 0, .ref q18, .ref q19, .ref q20, .ref q21, .ref q22, .long 0])), (q1, .inl ((jcy Γ) 0, 6, .inl (fun _ => 0))), (q2, .inl ((jcy Γ) 0, 240, .inl (fun _ => 0))), (q3, .inl ((jcy Γ) 0, 4, .inl (fun _ => 0))), (q4, .inl ((jcy Γ) 0, 320, .inl (fun _ => 0))), (q5, .inl ((jcy Γ) 0, 6, .inl (fun _ => 0))), (q6, .inl ((jcy Γ) 0, 6, .inl (fun _ => 0))), (q7, .inl ((jcy Γ) 0, 6, .inl (fun _ => 0))), (q8, .inl ((jcy Γ) 0, 7, .inl (fun _ => 0))), (q9, .inl ((jcy Γ) 0, 7, .inl (fun _ => 0))), (q10, .inl ((jcy Γ) 0, 7, .inl (fun _ => 0))), (q11, .inl ((jcy Γ) 0, 3, .inl (fun _ => 0))), (q12, .inl ((jcy Γ) 0, 12, .inl (fun _ => 0))), (q13, .inl ((jcy Γ) 0, 480, .inl (fun _ => 0))), (q14, .inl ((jcy Γ) 0, 6, .inl (fun _ => 0))), (q15, .inl ((jcy Γ) 0, 40, .inl (fun _ => 0))), (q16, .inl ((jcy Γ) 0, 18, .inl (fun _ => 0))), (q17, .inl ((jcy Γ) 0, 21, .inl (fun _ => 0))), (q18, .inl ((jcy Γ) 2, 3, .inl (fun _ => 0))), (q19, .inl ((jcy Γ) 0, 1488, .inl (fun _ => 0))), (q20, .inl ((jcy Γ) 2, 24576, .inl (fun _ => 0))), (q21, .inl ((jcy Γ) 0, 24576, .inl (fun _ => 0))), (q22, .inl ((jcy Γ) 0, 128, .inl (fun _ => 0)))]) (k0 := 31) 0 (pc' := 189) hC hin dX6_init_186 rfl cls6 (by decide) fi_X6_78.2.2.1 rfl rfl ⟨rfl, rfl⟩ rfl (Nat.le_of_ble_eq_true rfl) rfl ?_
  refine c_bridge (Rf := RM) (G := GM) (M := mM9) (fun i => if i = 0 then h0 else (fun i => [h0, q1, q2, q3, q4, q5, q6, q7, q8, q9, q10, q11, q12, q13, q14, q15, q16, q17, q18, q19, q20, q21, q22].getD i 0) i) [0, 1, 2, 3, 4, 5, 6, 7, 8, 9, 10, 11, 12, 13, 14, 15, 16, 17, 18, 19, 20, 21, 22] (by rw [jws_cl]; rfl) rfl ?_
  refine (show jJ (jset Γ (fun i => if i = 0 then h0 else (fun i => [h0, q1, q2, q3, q4, q5, q6, q7, q8, q9, q10, q11, q12, q13, q14, q15, q16, q17, q18, q19, q20, q21, q22].getD i 0) i) 22 51960) GM RM 189 [(0, .ref (jad (jset Γ (fun i => if i = 0 then h0 else (fun i => [h0, q1, q2, q3, q4, q5, q6, q7, q8, q9, q10, q11, q12, q13, q14, q15, q16, q17, q18, q19, q20, q21, q22].getD i 0) i) 22 51960) 0))] [] mM9 _ → _ from fun h9 => by rw [jset_ad] at h9; exact h9) ?_
  exact t_X6_initT (jset_ok hC.1 (Nat.le_of_ble_eq_true rfl) (Nat.le_of_ble_eq_true rfl)) hM (fun lv => j_cret (fun i => if i = 0 then h0 else (fun i => [h0, q1, q2, q3, q4, q5, q6, q7, q8, q9, q10, q11, q12, q13, q14, q15, q16, q17, q18, q19, q20, q21, q22].getD i 0) i) (fun i => [h0, q1, q2, q3, q4, q5, q6, q7, q8, q9, q10, q11, q12, q13, q14, q15, q16, q17, q18, q19, q20, q21, q22].getD i 0) hC.1 dX6_init_234 rfl)
