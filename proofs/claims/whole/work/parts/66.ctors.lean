theorem cEcy (Γ : jG) : (cEo Γ).2.1 = jcy Γ := by
  obtain ⟨p, l, e, R, s, m, args, below, meth, c, nL, D, cy, ad, st, A, kc, ks⟩ := Γ
  rfl
def w4 (cy : Nat → ClassId) (h0 n k : Nat) (u : Nat → Nat) : va_W := [(h0, .inr (4, [.ref (u 0), .ref (u 1)])), (u 0, .inl (cy 0, n, .inl (fun j => if j < n then -1 else 0))), (u 1, .inl (cy 4, n, .inr (.inr (.inr (.inr (fun i => if i < n then some (u (i + 2)) else none))))))] ++ (List.range n).map (fun i => (u (i + 2), .inl (cy 0, k, .inl (fun _ => 0))))
def w2 (cy : Nat → ClassId) (h0 : Nat) (u : Nat → Nat) : va_W := [(h0, .inr (2, [.int 0, .int 0, .ref (u 0), .ref (u 1), .ref (u 2), .ref (u 3), .ref (u 4), .ref (u 5), .ref (u 6), .ref (u 7), .ref (u 8)])), ((u 0), .inl (cy 0, 6, .inl (fun _ => 0))), ((u 1), .inl (cy 0, 6, .inl (fun _ => 0))), ((u 2), .inl (cy 0, 6, .inl (fun _ => 0))), ((u 3), .inl (cy 0, 6, .inl (fun _ => 0))), ((u 4), .inl (cy 0, 7, .inl (fun _ => 0))), ((u 5), .inl (cy 0, 7, .inl (fun _ => 0))), ((u 6), .inl (cy 0, 7, .inl (fun _ => 0))), ((u 7), .inl (cy 1, 6, .inr (.inl (fun _ => 0)))), ((u 8), .inl (cy 0, 6, .inl (fun _ => 0)))]
def w3 (cy : Nat → ClassId) (h0 : Nat) (u : Nat → Nat) : va_W := [(h0, .inr (3, [.ref (u 0), .ref (u 10), .int 0, .int 0])), ((u 0), .inr (2, [.int 0, .int 0, .ref (u 1), .ref (u 2), .ref (u 3), .ref (u 4), .ref (u 5), .ref (u 6), .ref (u 7), .ref (u 8), .ref (u 9)])), ((u 1), .inl (cy 0, 6, .inl (fun _ => 0))), ((u 2), .inl (cy 0, 6, .inl (fun _ => 0))), ((u 3), .inl (cy 0, 6, .inl (fun _ => 0))), ((u 4), .inl (cy 0, 6, .inl (fun _ => 0))), ((u 5), .inl (cy 0, 7, .inl (fun _ => 0))), ((u 6), .inl (cy 0, 7, .inl (fun _ => 0))), ((u 7), .inl (cy 0, 7, .inl (fun _ => 0))), ((u 8), .inl (cy 1, 6, .inr (.inl (fun _ => 0)))), ((u 9), .inl (cy 0, 6, .inl (fun _ => 0))), ((u 10), .inl (cy 0, 0, .inl (fun _ => 0)))]
def w0 (cy : Nat → ClassId) (h0 pl : Nat) (u : Nat → Nat) : va_W := [(h0, .inr (0, [.ref pl, .ref (u 0), .ref (u 1), .ref (u 2), .ref (u 3), .ref (u 4), .int 0, .int 0, .int 0, .int 0, .int 0, .int 0])), ((u 0), .inl (cy 0, 3, .inl (va_cpy (fun q => (jsI 0).getD q 0) (fun _ => 0) 0 0 3))), ((u 1), .inl (cy 0, 40, .inl (fun _ => 0))), ((u 2), .inl (cy 0, 40, .inl (fun _ => 0))), ((u 3), .inl (cy 0, 40, .inl (fun _ => 0))), ((u 4), .inl (cy 0, 7, .inl (fun k => if k < 7 then -9 else 0)))]
def w1 (cy : Nat → ClassId) (h0 pl : Nat) (u : Nat → Nat) : va_W := [(h0, .inr (1, [.ref pl, .ref (u 0), .ref (u 1), .int 0, .int 0, .int 0, .int 0])), ((u 0), .inl (cy 1, 384, .inr (.inl (fun _ => 0)))), ((u 1), .inl (cy 1, 384, .inr (.inl (fun _ => 0))))]
set_option maxRecDepth 100000 in
set_option maxHeartbeats 4000000 in
theorem ct_X4_6 (l : Launch) (E : cE) (h0 : Nat) : cCt l yX4_init cX4_init 3 1 8 252 23 E [.ref h0, .int 6, .int 40] [(h0, .inr (4, [.null, .null]))] (w4 E.2.1 h0 6 40) := by
  refine cCt_of (own := RX4) (by decide) rfl rfl (Nat.le_of_ble_eq_true rfl) ?_
  intro Γ hC hE hl
  subst hE
  subst hl
  rw [cEcy]
  show cJ Γ [(h0, .inr (4, [.null, .null]))] 0 0 0 [(0, .ref h0), (1, .int 6), (2, .int 40)] [] _
  refine c_aload_n 0 (pc' := 1) hC dX4_init_0 rfl rfl ?_
  refine c_obj (pc' := 4) hC dX4_init_1 rfl ko_X4_3 ⟨Nat.le_of_ble_eq_true rfl, Nat.le_of_ble_eq_true rfl⟩ ?_
  refine c_aload_n 0 (pc' := 5) hC dX4_init_4 rfl rfl ?_
  refine c_iload_n 1 (pc' := 6) hC dX4_init_5 rfl rfl ?_
  refine c_new0 (N := 6) (pc' := 8) hC dX4_init_6 rfl ac_int ⟨by decide, rfl, by decide⟩ ⟨Nat.le_of_ble_eq_true rfl, Nat.le_of_ble_eq_true rfl⟩ (fun q1 => ?_)
  show cJ Γ [(h0, .inr (4, [.null, .null])), (q1, .inl ((jcy Γ) 0, 6, .inl (fun _ => 0)))] 1 6 8 [(0, .ref h0), (1, .int 6), (2, .int 40)] [.ref q1, .ref h0] _
  refine c_put (ws' := [(h0, .inr (4, [.ref q1, .null])), (q1, .inl ((jcy Γ) 0, 6, .inl (fun _ => 0)))]) (k0 := 0) 0 (pc' := 11) hC dX4_init_8 rfl cls4 (by decide) fi_X4_9.2.2.1 rfl rfl ⟨rfl, rfl⟩ rfl (Nat.le_of_ble_eq_true rfl) rfl ?_
  refine c_aload_n 0 (pc' := 12) hC dX4_init_11 rfl rfl ?_
  refine c_iload_n 1 (pc' := 13) hC dX4_init_12 rfl rfl ?_
  refine c_iload_n 2 (pc' := 14) hC dX4_init_13 rfl rfl ?_
  refine c_mna (N := 6) (K := 40) (pc' := 18) hC dX4_init_14 rfl ⟨kl_X4_15, ac_int⟩ ⟨⟨by decide, rfl, by decide⟩, by decide, rfl, by decide⟩ ⟨Nat.le_of_ble_eq_true rfl, Nat.le_of_ble_eq_true rfl⟩ (fun q2 r3 => ?_)
  show cJ Γ [(h0, .inr (4, [.ref q1, .null])), (q1, .inl ((jcy Γ) 0, 6, .inl (fun _ => 0))), (q2, .inl ((jcy Γ) 4, 6, .inr (.inr (.inr (.inr (fun i => if i < 6 then some (r3 i) else none)))))), ((r3 0), .inl ((jcy Γ) 0, 40, .inl (fun _ => 0))), ((r3 1), .inl ((jcy Γ) 0, 40, .inl (fun _ => 0))), ((r3 2), .inl ((jcy Γ) 0, 40, .inl (fun _ => 0))), ((r3 3), .inl ((jcy Γ) 0, 40, .inl (fun _ => 0))), ((r3 4), .inl ((jcy Γ) 0, 40, .inl (fun _ => 0))), ((r3 5), .inl ((jcy Γ) 0, 40, .inl (fun _ => 0)))] 8 252 18 [(0, .ref h0), (1, .int 6), (2, .int 40)] [.ref q2, .ref h0] _
  refine c_put (ws' := [(h0, .inr (4, [.ref q1, .ref q2])), (q1, .inl ((jcy Γ) 0, 6, .inl (fun _ => 0))), (q2, .inl ((jcy Γ) 4, 6, .inr (.inr (.inr (.inr (fun i => if i < 6 then some (r3 i) else none)))))), ((r3 0), .inl ((jcy Γ) 0, 40, .inl (fun _ => 0))), ((r3 1), .inl ((jcy Γ) 0, 40, .inl (fun _ => 0))), ((r3 2), .inl ((jcy Γ) 0, 40, .inl (fun _ => 0))), ((r3 3), .inl ((jcy Γ) 0, 40, .inl (fun _ => 0))), ((r3 4), .inl ((jcy Γ) 0, 40, .inl (fun _ => 0))), ((r3 5), .inl ((jcy Γ) 0, 40, .inl (fun _ => 0)))]) (k0 := 1) 0 (pc' := 21) hC dX4_init_18 rfl cls4 (by decide) fi_X4_17.2.2.1 rfl rfl ⟨rfl, rfl⟩ rfl (Nat.le_of_ble_eq_true rfl) rfl ?_
  refine c_aload_n 0 (pc' := 22) hC dX4_init_21 rfl rfl ?_
  refine c_get (k0 := 0) 0 (pc' := 25) hC dX4_init_22 rfl cls4 (by decide) fi_X4_9.2.2.1 rfl rfl ?_
  refine c_iconst (v := -1) (pc' := 26) hC dX4_init_25 rfl rfl ?_
  refine c_fill (ws' := [(h0, .inr (4, [.ref q1, .ref q2])), (q1, .inl ((jcy Γ) 0, 6, .inl (fun k => if k < 6 then -1 else 0))), (q2, .inl ((jcy Γ) 4, 6, .inr (.inr (.inr (.inr (fun i => if i < 6 then some (r3 i) else none)))))), ((r3 0), .inl ((jcy Γ) 0, 40, .inl (fun _ => 0))), ((r3 1), .inl ((jcy Γ) 0, 40, .inl (fun _ => 0))), ((r3 2), .inl ((jcy Γ) 0, 40, .inl (fun _ => 0))), ((r3 3), .inl ((jcy Γ) 0, 40, .inl (fun _ => 0))), ((r3 4), .inl ((jcy Γ) 0, 40, .inl (fun _ => 0))), ((r3 5), .inl ((jcy Γ) 0, 40, .inl (fun _ => 0)))]) (N := 6) 1 (pc' := 29) hC dX4_init_26 rfl (by decide) cs_X4_20 rfl ⟨⟨Nat.le_of_ble_eq_true rfl, Nat.le_of_ble_eq_true rfl⟩, Nat.le_of_ble_eq_true rfl, Nat.le_of_ble_eq_true rfl, Nat.le_of_ble_eq_true rfl⟩ rfl ?_
  exact c_vret (fun i => match i with | 0 => q1 | 1 => q2 | i + 2 => r3 i) hC dX4_init_29 [0, 1, 2, 3, 4, 5, 6, 7, 8] rfl rfl
set_option maxRecDepth 100000 in
set_option maxHeartbeats 4000000 in
theorem ct_X4_4 (l : Launch) (E : cE) (h0 : Nat) : cCt l yX4_init cX4_init 3 1 6 328 23 E [.ref h0, .int 4, .int 80] [(h0, .inr (4, [.null, .null]))] (w4 E.2.1 h0 4 80) := by
  refine cCt_of (own := RX4) (by decide) rfl rfl (Nat.le_of_ble_eq_true rfl) ?_
  intro Γ hC hE hl
  subst hE
  subst hl
  rw [cEcy]
  show cJ Γ [(h0, .inr (4, [.null, .null]))] 0 0 0 [(0, .ref h0), (1, .int 4), (2, .int 80)] [] _
  refine c_aload_n 0 (pc' := 1) hC dX4_init_0 rfl rfl ?_
  refine c_obj (pc' := 4) hC dX4_init_1 rfl ko_X4_3 ⟨Nat.le_of_ble_eq_true rfl, Nat.le_of_ble_eq_true rfl⟩ ?_
  refine c_aload_n 0 (pc' := 5) hC dX4_init_4 rfl rfl ?_
  refine c_iload_n 1 (pc' := 6) hC dX4_init_5 rfl rfl ?_
  refine c_new0 (N := 4) (pc' := 8) hC dX4_init_6 rfl ac_int ⟨by decide, rfl, by decide⟩ ⟨Nat.le_of_ble_eq_true rfl, Nat.le_of_ble_eq_true rfl⟩ (fun q1 => ?_)
  show cJ Γ [(h0, .inr (4, [.null, .null])), (q1, .inl ((jcy Γ) 0, 4, .inl (fun _ => 0)))] 1 4 8 [(0, .ref h0), (1, .int 4), (2, .int 80)] [.ref q1, .ref h0] _
  refine c_put (ws' := [(h0, .inr (4, [.ref q1, .null])), (q1, .inl ((jcy Γ) 0, 4, .inl (fun _ => 0)))]) (k0 := 0) 0 (pc' := 11) hC dX4_init_8 rfl cls4 (by decide) fi_X4_9.2.2.1 rfl rfl ⟨rfl, rfl⟩ rfl (Nat.le_of_ble_eq_true rfl) rfl ?_
  refine c_aload_n 0 (pc' := 12) hC dX4_init_11 rfl rfl ?_
  refine c_iload_n 1 (pc' := 13) hC dX4_init_12 rfl rfl ?_
  refine c_iload_n 2 (pc' := 14) hC dX4_init_13 rfl rfl ?_
  refine c_mna (N := 4) (K := 80) (pc' := 18) hC dX4_init_14 rfl ⟨kl_X4_15, ac_int⟩ ⟨⟨by decide, rfl, by decide⟩, by decide, rfl, by decide⟩ ⟨Nat.le_of_ble_eq_true rfl, Nat.le_of_ble_eq_true rfl⟩ (fun q2 r3 => ?_)
  show cJ Γ [(h0, .inr (4, [.ref q1, .null])), (q1, .inl ((jcy Γ) 0, 4, .inl (fun _ => 0))), (q2, .inl ((jcy Γ) 4, 4, .inr (.inr (.inr (.inr (fun i => if i < 4 then some (r3 i) else none)))))), ((r3 0), .inl ((jcy Γ) 0, 80, .inl (fun _ => 0))), ((r3 1), .inl ((jcy Γ) 0, 80, .inl (fun _ => 0))), ((r3 2), .inl ((jcy Γ) 0, 80, .inl (fun _ => 0))), ((r3 3), .inl ((jcy Γ) 0, 80, .inl (fun _ => 0)))] 6 328 18 [(0, .ref h0), (1, .int 4), (2, .int 80)] [.ref q2, .ref h0] _
  refine c_put (ws' := [(h0, .inr (4, [.ref q1, .ref q2])), (q1, .inl ((jcy Γ) 0, 4, .inl (fun _ => 0))), (q2, .inl ((jcy Γ) 4, 4, .inr (.inr (.inr (.inr (fun i => if i < 4 then some (r3 i) else none)))))), ((r3 0), .inl ((jcy Γ) 0, 80, .inl (fun _ => 0))), ((r3 1), .inl ((jcy Γ) 0, 80, .inl (fun _ => 0))), ((r3 2), .inl ((jcy Γ) 0, 80, .inl (fun _ => 0))), ((r3 3), .inl ((jcy Γ) 0, 80, .inl (fun _ => 0)))]) (k0 := 1) 0 (pc' := 21) hC dX4_init_18 rfl cls4 (by decide) fi_X4_17.2.2.1 rfl rfl ⟨rfl, rfl⟩ rfl (Nat.le_of_ble_eq_true rfl) rfl ?_
  refine c_aload_n 0 (pc' := 22) hC dX4_init_21 rfl rfl ?_
  refine c_get (k0 := 0) 0 (pc' := 25) hC dX4_init_22 rfl cls4 (by decide) fi_X4_9.2.2.1 rfl rfl ?_
  refine c_iconst (v := -1) (pc' := 26) hC dX4_init_25 rfl rfl ?_
  refine c_fill (ws' := [(h0, .inr (4, [.ref q1, .ref q2])), (q1, .inl ((jcy Γ) 0, 4, .inl (fun k => if k < 4 then -1 else 0))), (q2, .inl ((jcy Γ) 4, 4, .inr (.inr (.inr (.inr (fun i => if i < 4 then some (r3 i) else none)))))), ((r3 0), .inl ((jcy Γ) 0, 80, .inl (fun _ => 0))), ((r3 1), .inl ((jcy Γ) 0, 80, .inl (fun _ => 0))), ((r3 2), .inl ((jcy Γ) 0, 80, .inl (fun _ => 0))), ((r3 3), .inl ((jcy Γ) 0, 80, .inl (fun _ => 0)))]) (N := 4) 1 (pc' := 29) hC dX4_init_26 rfl (by decide) cs_X4_20 rfl ⟨⟨Nat.le_of_ble_eq_true rfl, Nat.le_of_ble_eq_true rfl⟩, Nat.le_of_ble_eq_true rfl, Nat.le_of_ble_eq_true rfl, Nat.le_of_ble_eq_true rfl⟩ rfl ?_
  exact c_vret (fun i => match i with | 0 => q1 | 1 => q2 | i + 2 => r3 i) hC dX4_init_29 [0, 1, 2, 3, 4, 5, 6] rfl rfl
set_option maxRecDepth 100000 in
set_option maxHeartbeats 4000000 in
theorem ct_X2 (l : Launch) (E : cE) (h0 : Nat) : cCt l yX2_init cX2_init 1 1 9 57 20 E [.ref h0] [(h0, .inr (2, [.int 0, .int 0, .null, .null, .null, .null, .null, .null, .null, .null, .null]))] (w2 E.2.1 h0) := by
  refine cCt_of (own := RX2) (by decide) rfl rfl (Nat.le_of_ble_eq_true rfl) ?_
  intro Γ hC hE hl
  subst hE
  subst hl
  rw [cEcy]
  show cJ Γ [(h0, .inr (2, [.int 0, .int 0, .null, .null, .null, .null, .null, .null, .null, .null, .null]))] 0 0 0 [(0, .ref h0)] [] _
  refine c_aload_n 0 (pc' := 1) hC dX2_init_0 rfl rfl ?_
  refine c_obj (pc' := 4) hC dX2_init_1 rfl ko_X2_3 ⟨Nat.le_of_ble_eq_true rfl, Nat.le_of_ble_eq_true rfl⟩ ?_
  refine c_aload_n 0 (pc' := 5) hC dX2_init_4 rfl rfl ?_
  refine c_iconst (v := 0) (pc' := 6) hC dX2_init_5 rfl rfl ?_
  refine c_put (ws' := [(h0, .inr (2, [.int 0, .int 0, .null, .null, .null, .null, .null, .null, .null, .null, .null]))]) (k0 := 0) 0 (pc' := 9) hC dX2_init_6 rfl cls2 (by decide) fi_X2_9.2.2.1 rfl rfl ⟨rfl, rfl⟩ rfl (Nat.le_of_ble_eq_true rfl) rfl ?_
  refine c_aload_n 0 (pc' := 10) hC dX2_init_9 rfl rfl ?_
  refine c_iconst (v := 0) (pc' := 11) hC dX2_init_10 rfl rfl ?_
  refine c_put (ws' := [(h0, .inr (2, [.int 0, .int 0, .null, .null, .null, .null, .null, .null, .null, .null, .null]))]) (k0 := 1) 0 (pc' := 14) hC dX2_init_11 rfl cls2 (by decide) fi_X2_15.2.2.1 rfl rfl ⟨rfl, rfl⟩ rfl (Nat.le_of_ble_eq_true rfl) rfl ?_
  refine c_aload_n 0 (pc' := 15) hC dX2_init_14 rfl rfl ?_
  refine c_bipush (v := 6) (pc' := 17) hC dX2_init_15 rfl rfl ?_
  refine c_new0 (N := 6) (pc' := 19) hC dX2_init_17 rfl ac_int ⟨by decide, rfl, by decide⟩ ⟨Nat.le_of_ble_eq_true rfl, Nat.le_of_ble_eq_true rfl⟩ (fun q1 => ?_)
  show cJ Γ [(h0, .inr (2, [.int 0, .int 0, .null, .null, .null, .null, .null, .null, .null, .null, .null])), (q1, .inl ((jcy Γ) 0, 6, .inl (fun _ => 0)))] 1 6 19 [(0, .ref h0)] [.ref q1, .ref h0] _
  refine c_put (ws' := [(h0, .inr (2, [.int 0, .int 0, .ref q1, .null, .null, .null, .null, .null, .null, .null, .null])), (q1, .inl ((jcy Γ) 0, 6, .inl (fun _ => 0)))]) (k0 := 2) 0 (pc' := 22) hC dX2_init_19 rfl cls2 (by decide) fi_X2_18.2.2.1 rfl rfl ⟨rfl, rfl⟩ rfl (Nat.le_of_ble_eq_true rfl) rfl ?_
  refine c_aload_n 0 (pc' := 23) hC dX2_init_22 rfl rfl ?_
  refine c_bipush (v := 6) (pc' := 25) hC dX2_init_23 rfl rfl ?_
  refine c_new0 (N := 6) (pc' := 27) hC dX2_init_25 rfl ac_int ⟨by decide, rfl, by decide⟩ ⟨Nat.le_of_ble_eq_true rfl, Nat.le_of_ble_eq_true rfl⟩ (fun q2 => ?_)
  show cJ Γ [(h0, .inr (2, [.int 0, .int 0, .ref q1, .null, .null, .null, .null, .null, .null, .null, .null])), (q1, .inl ((jcy Γ) 0, 6, .inl (fun _ => 0))), (q2, .inl ((jcy Γ) 0, 6, .inl (fun _ => 0)))] 2 12 27 [(0, .ref h0)] [.ref q2, .ref h0] _
  refine c_put (ws' := [(h0, .inr (2, [.int 0, .int 0, .ref q1, .ref q2, .null, .null, .null, .null, .null, .null, .null])), (q1, .inl ((jcy Γ) 0, 6, .inl (fun _ => 0))), (q2, .inl ((jcy Γ) 0, 6, .inl (fun _ => 0)))]) (k0 := 3) 0 (pc' := 30) hC dX2_init_27 rfl cls2 (by decide) fi_X2_22.2.2.1 rfl rfl ⟨rfl, rfl⟩ rfl (Nat.le_of_ble_eq_true rfl) rfl ?_
  refine c_aload_n 0 (pc' := 31) hC dX2_init_30 rfl rfl ?_
  refine c_bipush (v := 6) (pc' := 33) hC dX2_init_31 rfl rfl ?_
  refine c_new0 (N := 6) (pc' := 35) hC dX2_init_33 rfl ac_int ⟨by decide, rfl, by decide⟩ ⟨Nat.le_of_ble_eq_true rfl, Nat.le_of_ble_eq_true rfl⟩ (fun q3 => ?_)
  show cJ Γ [(h0, .inr (2, [.int 0, .int 0, .ref q1, .ref q2, .null, .null, .null, .null, .null, .null, .null])), (q1, .inl ((jcy Γ) 0, 6, .inl (fun _ => 0))), (q2, .inl ((jcy Γ) 0, 6, .inl (fun _ => 0))), (q3, .inl ((jcy Γ) 0, 6, .inl (fun _ => 0)))] 3 18 35 [(0, .ref h0)] [.ref q3, .ref h0] _
  refine c_put (ws' := [(h0, .inr (2, [.int 0, .int 0, .ref q1, .ref q2, .ref q3, .null, .null, .null, .null, .null, .null])), (q1, .inl ((jcy Γ) 0, 6, .inl (fun _ => 0))), (q2, .inl ((jcy Γ) 0, 6, .inl (fun _ => 0))), (q3, .inl ((jcy Γ) 0, 6, .inl (fun _ => 0)))]) (k0 := 4) 0 (pc' := 38) hC dX2_init_35 rfl cls2 (by decide) fi_X2_25.2.2.1 rfl rfl ⟨rfl, rfl⟩ rfl (Nat.le_of_ble_eq_true rfl) rfl ?_
  refine c_aload_n 0 (pc' := 39) hC dX2_init_38 rfl rfl ?_
  refine c_bipush (v := 6) (pc' := 41) hC dX2_init_39 rfl rfl ?_
  refine c_new0 (N := 6) (pc' := 43) hC dX2_init_41 rfl ac_int ⟨by decide, rfl, by decide⟩ ⟨Nat.le_of_ble_eq_true rfl, Nat.le_of_ble_eq_true rfl⟩ (fun q4 => ?_)
  show cJ Γ [(h0, .inr (2, [.int 0, .int 0, .ref q1, .ref q2, .ref q3, .null, .null, .null, .null, .null, .null])), (q1, .inl ((jcy Γ) 0, 6, .inl (fun _ => 0))), (q2, .inl ((jcy Γ) 0, 6, .inl (fun _ => 0))), (q3, .inl ((jcy Γ) 0, 6, .inl (fun _ => 0))), (q4, .inl ((jcy Γ) 0, 6, .inl (fun _ => 0)))] 4 24 43 [(0, .ref h0)] [.ref q4, .ref h0] _
  refine c_put (ws' := [(h0, .inr (2, [.int 0, .int 0, .ref q1, .ref q2, .ref q3, .ref q4, .null, .null, .null, .null, .null])), (q1, .inl ((jcy Γ) 0, 6, .inl (fun _ => 0))), (q2, .inl ((jcy Γ) 0, 6, .inl (fun _ => 0))), (q3, .inl ((jcy Γ) 0, 6, .inl (fun _ => 0))), (q4, .inl ((jcy Γ) 0, 6, .inl (fun _ => 0)))]) (k0 := 5) 0 (pc' := 46) hC dX2_init_43 rfl cls2 (by decide) fi_X2_28.2.2.1 rfl rfl ⟨rfl, rfl⟩ rfl (Nat.le_of_ble_eq_true rfl) rfl ?_
  refine c_aload_n 0 (pc' := 47) hC dX2_init_46 rfl rfl ?_
  refine c_bipush (v := 7) (pc' := 49) hC dX2_init_47 rfl rfl ?_
  refine c_new0 (N := 7) (pc' := 51) hC dX2_init_49 rfl ac_int ⟨by decide, rfl, by decide⟩ ⟨Nat.le_of_ble_eq_true rfl, Nat.le_of_ble_eq_true rfl⟩ (fun q5 => ?_)
  show cJ Γ [(h0, .inr (2, [.int 0, .int 0, .ref q1, .ref q2, .ref q3, .ref q4, .null, .null, .null, .null, .null])), (q1, .inl ((jcy Γ) 0, 6, .inl (fun _ => 0))), (q2, .inl ((jcy Γ) 0, 6, .inl (fun _ => 0))), (q3, .inl ((jcy Γ) 0, 6, .inl (fun _ => 0))), (q4, .inl ((jcy Γ) 0, 6, .inl (fun _ => 0))), (q5, .inl ((jcy Γ) 0, 7, .inl (fun _ => 0)))] 5 31 51 [(0, .ref h0)] [.ref q5, .ref h0] _
  refine c_put (ws' := [(h0, .inr (2, [.int 0, .int 0, .ref q1, .ref q2, .ref q3, .ref q4, .ref q5, .null, .null, .null, .null])), (q1, .inl ((jcy Γ) 0, 6, .inl (fun _ => 0))), (q2, .inl ((jcy Γ) 0, 6, .inl (fun _ => 0))), (q3, .inl ((jcy Γ) 0, 6, .inl (fun _ => 0))), (q4, .inl ((jcy Γ) 0, 6, .inl (fun _ => 0))), (q5, .inl ((jcy Γ) 0, 7, .inl (fun _ => 0)))]) (k0 := 6) 0 (pc' := 54) hC dX2_init_51 rfl cls2 (by decide) fi_X2_31.2.2.1 rfl rfl ⟨rfl, rfl⟩ rfl (Nat.le_of_ble_eq_true rfl) rfl ?_
  refine c_aload_n 0 (pc' := 55) hC dX2_init_54 rfl rfl ?_
  refine c_bipush (v := 7) (pc' := 57) hC dX2_init_55 rfl rfl ?_
  refine c_new0 (N := 7) (pc' := 59) hC dX2_init_57 rfl ac_int ⟨by decide, rfl, by decide⟩ ⟨Nat.le_of_ble_eq_true rfl, Nat.le_of_ble_eq_true rfl⟩ (fun q6 => ?_)
  show cJ Γ [(h0, .inr (2, [.int 0, .int 0, .ref q1, .ref q2, .ref q3, .ref q4, .ref q5, .null, .null, .null, .null])), (q1, .inl ((jcy Γ) 0, 6, .inl (fun _ => 0))), (q2, .inl ((jcy Γ) 0, 6, .inl (fun _ => 0))), (q3, .inl ((jcy Γ) 0, 6, .inl (fun _ => 0))), (q4, .inl ((jcy Γ) 0, 6, .inl (fun _ => 0))), (q5, .inl ((jcy Γ) 0, 7, .inl (fun _ => 0))), (q6, .inl ((jcy Γ) 0, 7, .inl (fun _ => 0)))] 6 38 59 [(0, .ref h0)] [.ref q6, .ref h0] _
  refine c_put (ws' := [(h0, .inr (2, [.int 0, .int 0, .ref q1, .ref q2, .ref q3, .ref q4, .ref q5, .ref q6, .null, .null, .null])), (q1, .inl ((jcy Γ) 0, 6, .inl (fun _ => 0))), (q2, .inl ((jcy Γ) 0, 6, .inl (fun _ => 0))), (q3, .inl ((jcy Γ) 0, 6, .inl (fun _ => 0))), (q4, .inl ((jcy Γ) 0, 6, .inl (fun _ => 0))), (q5, .inl ((jcy Γ) 0, 7, .inl (fun _ => 0))), (q6, .inl ((jcy Γ) 0, 7, .inl (fun _ => 0)))]) (k0 := 7) 0 (pc' := 62) hC dX2_init_59 rfl cls2 (by decide) fi_X2_34.2.2.1 rfl rfl ⟨rfl, rfl⟩ rfl (Nat.le_of_ble_eq_true rfl) rfl ?_
  refine c_aload_n 0 (pc' := 63) hC dX2_init_62 rfl rfl ?_
  refine c_bipush (v := 7) (pc' := 65) hC dX2_init_63 rfl rfl ?_
  refine c_new0 (N := 7) (pc' := 67) hC dX2_init_65 rfl ac_int ⟨by decide, rfl, by decide⟩ ⟨Nat.le_of_ble_eq_true rfl, Nat.le_of_ble_eq_true rfl⟩ (fun q7 => ?_)
  show cJ Γ [(h0, .inr (2, [.int 0, .int 0, .ref q1, .ref q2, .ref q3, .ref q4, .ref q5, .ref q6, .null, .null, .null])), (q1, .inl ((jcy Γ) 0, 6, .inl (fun _ => 0))), (q2, .inl ((jcy Γ) 0, 6, .inl (fun _ => 0))), (q3, .inl ((jcy Γ) 0, 6, .inl (fun _ => 0))), (q4, .inl ((jcy Γ) 0, 6, .inl (fun _ => 0))), (q5, .inl ((jcy Γ) 0, 7, .inl (fun _ => 0))), (q6, .inl ((jcy Γ) 0, 7, .inl (fun _ => 0))), (q7, .inl ((jcy Γ) 0, 7, .inl (fun _ => 0)))] 7 45 67 [(0, .ref h0)] [.ref q7, .ref h0] _
  refine c_put (ws' := [(h0, .inr (2, [.int 0, .int 0, .ref q1, .ref q2, .ref q3, .ref q4, .ref q5, .ref q6, .ref q7, .null, .null])), (q1, .inl ((jcy Γ) 0, 6, .inl (fun _ => 0))), (q2, .inl ((jcy Γ) 0, 6, .inl (fun _ => 0))), (q3, .inl ((jcy Γ) 0, 6, .inl (fun _ => 0))), (q4, .inl ((jcy Γ) 0, 6, .inl (fun _ => 0))), (q5, .inl ((jcy Γ) 0, 7, .inl (fun _ => 0))), (q6, .inl ((jcy Γ) 0, 7, .inl (fun _ => 0))), (q7, .inl ((jcy Γ) 0, 7, .inl (fun _ => 0)))]) (k0 := 8) 0 (pc' := 70) hC dX2_init_67 rfl cls2 (by decide) fi_X2_37.2.2.1 rfl rfl ⟨rfl, rfl⟩ rfl (Nat.le_of_ble_eq_true rfl) rfl ?_
  refine c_aload_n 0 (pc' := 71) hC dX2_init_70 rfl rfl ?_
  refine c_bipush (v := 6) (pc' := 73) hC dX2_init_71 rfl rfl ?_
  refine c_new1 (N := 6) (pc' := 75) hC dX2_init_73 rfl ac_long ⟨by decide, rfl, by decide⟩ ⟨Nat.le_of_ble_eq_true rfl, Nat.le_of_ble_eq_true rfl⟩ (fun q8 => ?_)
  show cJ Γ [(h0, .inr (2, [.int 0, .int 0, .ref q1, .ref q2, .ref q3, .ref q4, .ref q5, .ref q6, .ref q7, .null, .null])), (q1, .inl ((jcy Γ) 0, 6, .inl (fun _ => 0))), (q2, .inl ((jcy Γ) 0, 6, .inl (fun _ => 0))), (q3, .inl ((jcy Γ) 0, 6, .inl (fun _ => 0))), (q4, .inl ((jcy Γ) 0, 6, .inl (fun _ => 0))), (q5, .inl ((jcy Γ) 0, 7, .inl (fun _ => 0))), (q6, .inl ((jcy Γ) 0, 7, .inl (fun _ => 0))), (q7, .inl ((jcy Γ) 0, 7, .inl (fun _ => 0))), (q8, .inl ((jcy Γ) 1, 6, .inr (.inl (fun _ => 0))))] 8 51 75 [(0, .ref h0)] [.ref q8, .ref h0] _
  refine c_put (ws' := [(h0, .inr (2, [.int 0, .int 0, .ref q1, .ref q2, .ref q3, .ref q4, .ref q5, .ref q6, .ref q7, .ref q8, .null])), (q1, .inl ((jcy Γ) 0, 6, .inl (fun _ => 0))), (q2, .inl ((jcy Γ) 0, 6, .inl (fun _ => 0))), (q3, .inl ((jcy Γ) 0, 6, .inl (fun _ => 0))), (q4, .inl ((jcy Γ) 0, 6, .inl (fun _ => 0))), (q5, .inl ((jcy Γ) 0, 7, .inl (fun _ => 0))), (q6, .inl ((jcy Γ) 0, 7, .inl (fun _ => 0))), (q7, .inl ((jcy Γ) 0, 7, .inl (fun _ => 0))), (q8, .inl ((jcy Γ) 1, 6, .inr (.inl (fun _ => 0))))]) (k0 := 9) 0 (pc' := 78) hC dX2_init_75 rfl cls2 (by decide) fi_X2_40.2.2.1 rfl rfl ⟨rfl, rfl⟩ rfl (Nat.le_of_ble_eq_true rfl) rfl ?_
  refine c_aload_n 0 (pc' := 79) hC dX2_init_78 rfl rfl ?_
  refine c_bipush (v := 6) (pc' := 81) hC dX2_init_79 rfl rfl ?_
  refine c_new0 (N := 6) (pc' := 83) hC dX2_init_81 rfl ac_int ⟨by decide, rfl, by decide⟩ ⟨Nat.le_of_ble_eq_true rfl, Nat.le_of_ble_eq_true rfl⟩ (fun q9 => ?_)
  show cJ Γ [(h0, .inr (2, [.int 0, .int 0, .ref q1, .ref q2, .ref q3, .ref q4, .ref q5, .ref q6, .ref q7, .ref q8, .null])), (q1, .inl ((jcy Γ) 0, 6, .inl (fun _ => 0))), (q2, .inl ((jcy Γ) 0, 6, .inl (fun _ => 0))), (q3, .inl ((jcy Γ) 0, 6, .inl (fun _ => 0))), (q4, .inl ((jcy Γ) 0, 6, .inl (fun _ => 0))), (q5, .inl ((jcy Γ) 0, 7, .inl (fun _ => 0))), (q6, .inl ((jcy Γ) 0, 7, .inl (fun _ => 0))), (q7, .inl ((jcy Γ) 0, 7, .inl (fun _ => 0))), (q8, .inl ((jcy Γ) 1, 6, .inr (.inl (fun _ => 0)))), (q9, .inl ((jcy Γ) 0, 6, .inl (fun _ => 0)))] 9 57 83 [(0, .ref h0)] [.ref q9, .ref h0] _
  refine c_put (ws' := [(h0, .inr (2, [.int 0, .int 0, .ref q1, .ref q2, .ref q3, .ref q4, .ref q5, .ref q6, .ref q7, .ref q8, .ref q9])), (q1, .inl ((jcy Γ) 0, 6, .inl (fun _ => 0))), (q2, .inl ((jcy Γ) 0, 6, .inl (fun _ => 0))), (q3, .inl ((jcy Γ) 0, 6, .inl (fun _ => 0))), (q4, .inl ((jcy Γ) 0, 6, .inl (fun _ => 0))), (q5, .inl ((jcy Γ) 0, 7, .inl (fun _ => 0))), (q6, .inl ((jcy Γ) 0, 7, .inl (fun _ => 0))), (q7, .inl ((jcy Γ) 0, 7, .inl (fun _ => 0))), (q8, .inl ((jcy Γ) 1, 6, .inr (.inl (fun _ => 0)))), (q9, .inl ((jcy Γ) 0, 6, .inl (fun _ => 0)))]) (k0 := 10) 0 (pc' := 86) hC dX2_init_83 rfl cls2 (by decide) fi_X2_44.2.2.1 rfl rfl ⟨rfl, rfl⟩ rfl (Nat.le_of_ble_eq_true rfl) rfl ?_
  exact c_vret (fun i => [q1, q2, q3, q4, q5, q6, q7, q8, q9].getD i 0) hC dX2_init_86 [0, 1, 2, 3, 4, 5, 6, 7, 8, 9] rfl rfl
set_option maxRecDepth 100000 in
set_option maxHeartbeats 4000000 in
theorem ct_X3 (l : Launch) (E : cE) (h0 : Nat) : cCt l yX3_init cX3_init 1 2 11 68 40 E [.ref h0] [(h0, .inr (3, [.null, .null, .int 0, .int 0]))] (w3 E.2.1 h0) := by
  refine cCt_of (own := RX3) (by decide) rfl rfl (Nat.le_of_ble_eq_true rfl) ?_
  intro Γ hC hE hl
  subst hE
  subst hl
  rw [cEcy]
  show cJ Γ [(h0, .inr (3, [.null, .null, .int 0, .int 0]))] 0 0 0 [(0, .ref h0)] [] _
  refine c_aload_n 0 (pc' := 1) hC dX3_init_0 rfl rfl ?_
  refine c_obj (pc' := 4) hC dX3_init_1 rfl ko_X3_3 ⟨Nat.le_of_ble_eq_true rfl, Nat.le_of_ble_eq_true rfl⟩ ?_
  refine c_aload_n 0 (pc' := 5) hC dX3_init_4 rfl rfl ?_
  refine c_new [.int 0, .int 0, .null, .null, .null, .null, .null, .null, .null, .null, .null] (pc' := 8) hC dX3_init_5 rfl cls2 kn_X3_9 df2 ⟨Nat.le_of_ble_eq_true rfl, Nat.le_of_ble_eq_true rfl⟩ (fun q1 => ?_)
  show cJ Γ [(h0, .inr (3, [.null, .null, .int 0, .int 0])), (q1, .inr (2, [.int 0, .int 0, .null, .null, .null, .null, .null, .null, .null, .null, .null]))] 1 11 8 [(0, .ref h0)] [.ref q1, .ref h0] _
  refine c_dup (pc' := 9) hC dX3_init_8 rfl rfl ?_
  have hm3 := ct_X2 (jlo Γ) (cEo Γ) q1
  rw [cEcy] at hm3
  refine c_callIN (wc := [(q1, .inr (2, [.int 0, .int 0, .null, .null, .null, .null, .null, .null, .null, .null, .null]))]) (wr := [(h0, .inr (3, [.null, .null, .int 0, .int 0]))]) (rest := [.ref q1, .ref h0]) [] [1] [0] (pc' := 12) hC dX3_init_9 rfl hm3 ki_X3_11 ⟨⟨Nat.le_of_ble_eq_true rfl, Nat.le_of_ble_eq_true rfl⟩, rfl, Nat.le_of_ble_eq_true rfl, Nat.le_of_ble_eq_true rfl, Nat.le_of_ble_eq_true rfl⟩ rfl rfl ⟨rfl, rfl, by decide⟩ rfl (fun u2 => ?_)
  show cJ Γ [(h0, .inr (3, [.null, .null, .int 0, .int 0])), (q1, .inr (2, [.int 0, .int 0, .ref (u2 0), .ref (u2 1), .ref (u2 2), .ref (u2 3), .ref (u2 4), .ref (u2 5), .ref (u2 6), .ref (u2 7), .ref (u2 8)])), ((u2 0), .inl ((jcy Γ) 0, 6, .inl (fun _ => 0))), ((u2 1), .inl ((jcy Γ) 0, 6, .inl (fun _ => 0))), ((u2 2), .inl ((jcy Γ) 0, 6, .inl (fun _ => 0))), ((u2 3), .inl ((jcy Γ) 0, 6, .inl (fun _ => 0))), ((u2 4), .inl ((jcy Γ) 0, 7, .inl (fun _ => 0))), ((u2 5), .inl ((jcy Γ) 0, 7, .inl (fun _ => 0))), ((u2 6), .inl ((jcy Γ) 0, 7, .inl (fun _ => 0))), ((u2 7), .inl ((jcy Γ) 1, 6, .inr (.inl (fun _ => 0)))), ((u2 8), .inl ((jcy Γ) 0, 6, .inl (fun _ => 0)))] 10 68 12 [(0, .ref h0)] [.ref q1, .ref h0] _
  refine c_put (ws' := [(h0, .inr (3, [.ref q1, .null, .int 0, .int 0])), (q1, .inr (2, [.int 0, .int 0, .ref (u2 0), .ref (u2 1), .ref (u2 2), .ref (u2 3), .ref (u2 4), .ref (u2 5), .ref (u2 6), .ref (u2 7), .ref (u2 8)])), ((u2 0), .inl ((jcy Γ) 0, 6, .inl (fun _ => 0))), ((u2 1), .inl ((jcy Γ) 0, 6, .inl (fun _ => 0))), ((u2 2), .inl ((jcy Γ) 0, 6, .inl (fun _ => 0))), ((u2 3), .inl ((jcy Γ) 0, 6, .inl (fun _ => 0))), ((u2 4), .inl ((jcy Γ) 0, 7, .inl (fun _ => 0))), ((u2 5), .inl ((jcy Γ) 0, 7, .inl (fun _ => 0))), ((u2 6), .inl ((jcy Γ) 0, 7, .inl (fun _ => 0))), ((u2 7), .inl ((jcy Γ) 1, 6, .inr (.inl (fun _ => 0)))), ((u2 8), .inl ((jcy Γ) 0, 6, .inl (fun _ => 0)))]) (k0 := 0) 0 (pc' := 15) hC dX3_init_12 rfl cls3 (by decide) fi_X3_12.2.2.1 rfl rfl ⟨rfl, rfl⟩ rfl (Nat.le_of_ble_eq_true rfl) rfl ?_
  refine c_aload_n 0 (pc' := 16) hC dX3_init_15 rfl rfl ?_
  refine c_iconst (v := 0) (pc' := 17) hC dX3_init_16 rfl rfl ?_
  refine c_new0 (N := 0) (pc' := 19) hC dX3_init_17 rfl ac_int ⟨by decide, rfl, by decide⟩ ⟨Nat.le_of_ble_eq_true rfl, Nat.le_of_ble_eq_true rfl⟩ (fun q4 => ?_)
  show cJ Γ [(h0, .inr (3, [.ref q1, .null, .int 0, .int 0])), (q1, .inr (2, [.int 0, .int 0, .ref (u2 0), .ref (u2 1), .ref (u2 2), .ref (u2 3), .ref (u2 4), .ref (u2 5), .ref (u2 6), .ref (u2 7), .ref (u2 8)])), ((u2 0), .inl ((jcy Γ) 0, 6, .inl (fun _ => 0))), ((u2 1), .inl ((jcy Γ) 0, 6, .inl (fun _ => 0))), ((u2 2), .inl ((jcy Γ) 0, 6, .inl (fun _ => 0))), ((u2 3), .inl ((jcy Γ) 0, 6, .inl (fun _ => 0))), ((u2 4), .inl ((jcy Γ) 0, 7, .inl (fun _ => 0))), ((u2 5), .inl ((jcy Γ) 0, 7, .inl (fun _ => 0))), ((u2 6), .inl ((jcy Γ) 0, 7, .inl (fun _ => 0))), ((u2 7), .inl ((jcy Γ) 1, 6, .inr (.inl (fun _ => 0)))), ((u2 8), .inl ((jcy Γ) 0, 6, .inl (fun _ => 0))), (q4, .inl ((jcy Γ) 0, 0, .inl (fun _ => 0)))] 11 68 19 [(0, .ref h0)] [.ref q4, .ref h0] _
  refine c_put (ws' := [(h0, .inr (3, [.ref q1, .ref q4, .int 0, .int 0])), (q1, .inr (2, [.int 0, .int 0, .ref (u2 0), .ref (u2 1), .ref (u2 2), .ref (u2 3), .ref (u2 4), .ref (u2 5), .ref (u2 6), .ref (u2 7), .ref (u2 8)])), ((u2 0), .inl ((jcy Γ) 0, 6, .inl (fun _ => 0))), ((u2 1), .inl ((jcy Γ) 0, 6, .inl (fun _ => 0))), ((u2 2), .inl ((jcy Γ) 0, 6, .inl (fun _ => 0))), ((u2 3), .inl ((jcy Γ) 0, 6, .inl (fun _ => 0))), ((u2 4), .inl ((jcy Γ) 0, 7, .inl (fun _ => 0))), ((u2 5), .inl ((jcy Γ) 0, 7, .inl (fun _ => 0))), ((u2 6), .inl ((jcy Γ) 0, 7, .inl (fun _ => 0))), ((u2 7), .inl ((jcy Γ) 1, 6, .inr (.inl (fun _ => 0)))), ((u2 8), .inl ((jcy Γ) 0, 6, .inl (fun _ => 0))), (q4, .inl ((jcy Γ) 0, 0, .inl (fun _ => 0)))]) (k0 := 1) 0 (pc' := 22) hC dX3_init_19 rfl cls3 (by decide) fi_X3_18.2.2.1 rfl rfl ⟨rfl, rfl⟩ rfl (Nat.le_of_ble_eq_true rfl) rfl ?_
  refine c_aload_n 0 (pc' := 23) hC dX3_init_22 rfl rfl ?_
  refine c_iconst (v := 0) (pc' := 24) hC dX3_init_23 rfl rfl ?_
  refine c_put (ws' := [(h0, .inr (3, [.ref q1, .ref q4, .int 0, .int 0])), (q1, .inr (2, [.int 0, .int 0, .ref (u2 0), .ref (u2 1), .ref (u2 2), .ref (u2 3), .ref (u2 4), .ref (u2 5), .ref (u2 6), .ref (u2 7), .ref (u2 8)])), ((u2 0), .inl ((jcy Γ) 0, 6, .inl (fun _ => 0))), ((u2 1), .inl ((jcy Γ) 0, 6, .inl (fun _ => 0))), ((u2 2), .inl ((jcy Γ) 0, 6, .inl (fun _ => 0))), ((u2 3), .inl ((jcy Γ) 0, 6, .inl (fun _ => 0))), ((u2 4), .inl ((jcy Γ) 0, 7, .inl (fun _ => 0))), ((u2 5), .inl ((jcy Γ) 0, 7, .inl (fun _ => 0))), ((u2 6), .inl ((jcy Γ) 0, 7, .inl (fun _ => 0))), ((u2 7), .inl ((jcy Γ) 1, 6, .inr (.inl (fun _ => 0)))), ((u2 8), .inl ((jcy Γ) 0, 6, .inl (fun _ => 0))), (q4, .inl ((jcy Γ) 0, 0, .inl (fun _ => 0)))]) (k0 := 2) 0 (pc' := 27) hC dX3_init_24 rfl cls3 (by decide) fi_X3_22.2.2.1 rfl rfl ⟨rfl, rfl⟩ rfl (Nat.le_of_ble_eq_true rfl) rfl ?_
  refine c_aload_n 0 (pc' := 28) hC dX3_init_27 rfl rfl ?_
  refine c_iconst (v := 0) (pc' := 29) hC dX3_init_28 rfl rfl ?_
  refine c_put (ws' := [(h0, .inr (3, [.ref q1, .ref q4, .int 0, .int 0])), (q1, .inr (2, [.int 0, .int 0, .ref (u2 0), .ref (u2 1), .ref (u2 2), .ref (u2 3), .ref (u2 4), .ref (u2 5), .ref (u2 6), .ref (u2 7), .ref (u2 8)])), ((u2 0), .inl ((jcy Γ) 0, 6, .inl (fun _ => 0))), ((u2 1), .inl ((jcy Γ) 0, 6, .inl (fun _ => 0))), ((u2 2), .inl ((jcy Γ) 0, 6, .inl (fun _ => 0))), ((u2 3), .inl ((jcy Γ) 0, 6, .inl (fun _ => 0))), ((u2 4), .inl ((jcy Γ) 0, 7, .inl (fun _ => 0))), ((u2 5), .inl ((jcy Γ) 0, 7, .inl (fun _ => 0))), ((u2 6), .inl ((jcy Γ) 0, 7, .inl (fun _ => 0))), ((u2 7), .inl ((jcy Γ) 1, 6, .inr (.inl (fun _ => 0)))), ((u2 8), .inl ((jcy Γ) 0, 6, .inl (fun _ => 0))), (q4, .inl ((jcy Γ) 0, 0, .inl (fun _ => 0)))]) (k0 := 3) 0 (pc' := 32) hC dX3_init_29 rfl cls3 (by decide) fi_X3_26.2.2.1 rfl rfl ⟨rfl, rfl⟩ rfl (Nat.le_of_ble_eq_true rfl) rfl ?_
  exact c_vret (fun i => match i with | 0 => q1 | 10 => q4 | i + 1 => u2 i) hC dX3_init_32 [0, 1, 2, 3, 4, 5, 6, 7, 8, 9, 10, 11] rfl rfl
set_option maxRecDepth 100000 in
set_option maxHeartbeats 4000000 in
theorem ct_X0 (l : Launch) (E : cE) (h0 pl : Nat) : cCt l yX0_init cX0_init 2 1 5 130 30 E [.ref h0, .ref pl] [(h0, .inr (0, [.null, .null, .null, .null, .null, .null, .int 0, .int 0, .int 0, .int 0, .int 0, .int 0]))] (w0 E.2.1 h0 pl) := by
  refine cCt_of (own := RX0) (by decide) rfl rfl (Nat.le_of_ble_eq_true rfl) ?_
  intro Γ hC hE hl
  subst hE
  subst hl
  rw [cEcy]
  show cJ Γ [(h0, .inr (0, [.null, .null, .null, .null, .null, .null, .int 0, .int 0, .int 0, .int 0, .int 0, .int 0]))] 0 0 0 [(0, .ref h0), (1, .ref pl)] [] _
  refine c_aload_n 0 (pc' := 1) hC dX0_init_0 rfl rfl ?_
  refine c_obj (pc' := 4) hC dX0_init_1 rfl ko_X0_3 ⟨Nat.le_of_ble_eq_true rfl, Nat.le_of_ble_eq_true rfl⟩ ?_
  refine c_aload_n 0 (pc' := 5) hC dX0_init_4 rfl rfl ?_
  refine c_iconst (v := 3) (pc' := 6) hC dX0_init_5 rfl rfl ?_
  refine c_new0 (N := 3) (pc' := 8) hC dX0_init_6 rfl ac_int ⟨by decide, rfl, by decide⟩ ⟨Nat.le_of_ble_eq_true rfl, Nat.le_of_ble_eq_true rfl⟩ (fun q1 => ?_)
  show cJ Γ [(h0, .inr (0, [.null, .null, .null, .null, .null, .null, .int 0, .int 0, .int 0, .int 0, .int 0, .int 0])), (q1, .inl ((jcy Γ) 0, 3, .inl (fun _ => 0)))] 1 3 8 [(0, .ref h0), (1, .ref pl)] [.ref q1, .ref h0] _
  refine c_put (ws' := [(h0, .inr (0, [.null, .ref q1, .null, .null, .null, .null, .int 0, .int 0, .int 0, .int 0, .int 0, .int 0])), (q1, .inl ((jcy Γ) 0, 3, .inl (fun _ => 0)))]) (k0 := 1) 0 (pc' := 11) hC dX0_init_8 rfl cls0 (by decide) fi_X0_9.2.2.1 rfl rfl ⟨rfl, rfl⟩ rfl (Nat.le_of_ble_eq_true rfl) rfl ?_
  refine c_aload_n 0 (pc' := 12) hC dX0_init_11 rfl rfl ?_
  refine c_bipush (v := 40) (pc' := 14) hC dX0_init_12 rfl rfl ?_
  refine c_new0 (N := 40) (pc' := 16) hC dX0_init_14 rfl ac_int ⟨by decide, rfl, by decide⟩ ⟨Nat.le_of_ble_eq_true rfl, Nat.le_of_ble_eq_true rfl⟩ (fun q2 => ?_)
  show cJ Γ [(h0, .inr (0, [.null, .ref q1, .null, .null, .null, .null, .int 0, .int 0, .int 0, .int 0, .int 0, .int 0])), (q1, .inl ((jcy Γ) 0, 3, .inl (fun _ => 0))), (q2, .inl ((jcy Γ) 0, 40, .inl (fun _ => 0)))] 2 43 16 [(0, .ref h0), (1, .ref pl)] [.ref q2, .ref h0] _
  refine c_put (ws' := [(h0, .inr (0, [.null, .ref q1, .ref q2, .null, .null, .null, .int 0, .int 0, .int 0, .int 0, .int 0, .int 0])), (q1, .inl ((jcy Γ) 0, 3, .inl (fun _ => 0))), (q2, .inl ((jcy Γ) 0, 40, .inl (fun _ => 0)))]) (k0 := 2) 0 (pc' := 19) hC dX0_init_16 rfl cls0 (by decide) fi_X0_15.2.2.1 rfl rfl ⟨rfl, rfl⟩ rfl (Nat.le_of_ble_eq_true rfl) rfl ?_
  refine c_aload_n 0 (pc' := 20) hC dX0_init_19 rfl rfl ?_
  refine c_bipush (v := 40) (pc' := 22) hC dX0_init_20 rfl rfl ?_
  refine c_new0 (N := 40) (pc' := 24) hC dX0_init_22 rfl ac_int ⟨by decide, rfl, by decide⟩ ⟨Nat.le_of_ble_eq_true rfl, Nat.le_of_ble_eq_true rfl⟩ (fun q3 => ?_)
  show cJ Γ [(h0, .inr (0, [.null, .ref q1, .ref q2, .null, .null, .null, .int 0, .int 0, .int 0, .int 0, .int 0, .int 0])), (q1, .inl ((jcy Γ) 0, 3, .inl (fun _ => 0))), (q2, .inl ((jcy Γ) 0, 40, .inl (fun _ => 0))), (q3, .inl ((jcy Γ) 0, 40, .inl (fun _ => 0)))] 3 83 24 [(0, .ref h0), (1, .ref pl)] [.ref q3, .ref h0] _
  refine c_put (ws' := [(h0, .inr (0, [.null, .ref q1, .ref q2, .ref q3, .null, .null, .int 0, .int 0, .int 0, .int 0, .int 0, .int 0])), (q1, .inl ((jcy Γ) 0, 3, .inl (fun _ => 0))), (q2, .inl ((jcy Γ) 0, 40, .inl (fun _ => 0))), (q3, .inl ((jcy Γ) 0, 40, .inl (fun _ => 0)))]) (k0 := 3) 0 (pc' := 27) hC dX0_init_24 rfl cls0 (by decide) fi_X0_18.2.2.1 rfl rfl ⟨rfl, rfl⟩ rfl (Nat.le_of_ble_eq_true rfl) rfl ?_
  refine c_aload_n 0 (pc' := 28) hC dX0_init_27 rfl rfl ?_
  refine c_bipush (v := 40) (pc' := 30) hC dX0_init_28 rfl rfl ?_
  refine c_new0 (N := 40) (pc' := 32) hC dX0_init_30 rfl ac_int ⟨by decide, rfl, by decide⟩ ⟨Nat.le_of_ble_eq_true rfl, Nat.le_of_ble_eq_true rfl⟩ (fun q4 => ?_)
  show cJ Γ [(h0, .inr (0, [.null, .ref q1, .ref q2, .ref q3, .null, .null, .int 0, .int 0, .int 0, .int 0, .int 0, .int 0])), (q1, .inl ((jcy Γ) 0, 3, .inl (fun _ => 0))), (q2, .inl ((jcy Γ) 0, 40, .inl (fun _ => 0))), (q3, .inl ((jcy Γ) 0, 40, .inl (fun _ => 0))), (q4, .inl ((jcy Γ) 0, 40, .inl (fun _ => 0)))] 4 123 32 [(0, .ref h0), (1, .ref pl)] [.ref q4, .ref h0] _
  refine c_put (ws' := [(h0, .inr (0, [.null, .ref q1, .ref q2, .ref q3, .ref q4, .null, .int 0, .int 0, .int 0, .int 0, .int 0, .int 0])), (q1, .inl ((jcy Γ) 0, 3, .inl (fun _ => 0))), (q2, .inl ((jcy Γ) 0, 40, .inl (fun _ => 0))), (q3, .inl ((jcy Γ) 0, 40, .inl (fun _ => 0))), (q4, .inl ((jcy Γ) 0, 40, .inl (fun _ => 0)))]) (k0 := 4) 0 (pc' := 35) hC dX0_init_32 rfl cls0 (by decide) fi_X0_21.2.2.1 rfl rfl ⟨rfl, rfl⟩ rfl (Nat.le_of_ble_eq_true rfl) rfl ?_
  refine c_aload_n 0 (pc' := 36) hC dX0_init_35 rfl rfl ?_
  refine c_bipush (v := 7) (pc' := 38) hC dX0_init_36 rfl rfl ?_
  refine c_new0 (N := 7) (pc' := 40) hC dX0_init_38 rfl ac_int ⟨by decide, rfl, by decide⟩ ⟨Nat.le_of_ble_eq_true rfl, Nat.le_of_ble_eq_true rfl⟩ (fun q5 => ?_)
  show cJ Γ [(h0, .inr (0, [.null, .ref q1, .ref q2, .ref q3, .ref q4, .null, .int 0, .int 0, .int 0, .int 0, .int 0, .int 0])), (q1, .inl ((jcy Γ) 0, 3, .inl (fun _ => 0))), (q2, .inl ((jcy Γ) 0, 40, .inl (fun _ => 0))), (q3, .inl ((jcy Γ) 0, 40, .inl (fun _ => 0))), (q4, .inl ((jcy Γ) 0, 40, .inl (fun _ => 0))), (q5, .inl ((jcy Γ) 0, 7, .inl (fun _ => 0)))] 5 130 40 [(0, .ref h0), (1, .ref pl)] [.ref q5, .ref h0] _
  refine c_put (ws' := [(h0, .inr (0, [.null, .ref q1, .ref q2, .ref q3, .ref q4, .ref q5, .int 0, .int 0, .int 0, .int 0, .int 0, .int 0])), (q1, .inl ((jcy Γ) 0, 3, .inl (fun _ => 0))), (q2, .inl ((jcy Γ) 0, 40, .inl (fun _ => 0))), (q3, .inl ((jcy Γ) 0, 40, .inl (fun _ => 0))), (q4, .inl ((jcy Γ) 0, 40, .inl (fun _ => 0))), (q5, .inl ((jcy Γ) 0, 7, .inl (fun _ => 0)))]) (k0 := 5) 0 (pc' := 43) hC dX0_init_40 rfl cls0 (by decide) fi_X0_24.2.2.1 rfl rfl ⟨rfl, rfl⟩ rfl (Nat.le_of_ble_eq_true rfl) rfl ?_
  refine c_aload_n 0 (pc' := 44) hC dX0_init_43 rfl rfl ?_
  refine c_iconst (v := 0) (pc' := 45) hC dX0_init_44 rfl rfl ?_
  refine c_put (ws' := [(h0, .inr (0, [.null, .ref q1, .ref q2, .ref q3, .ref q4, .ref q5, .int 0, .int 0, .int 0, .int 0, .int 0, .int 0])), (q1, .inl ((jcy Γ) 0, 3, .inl (fun _ => 0))), (q2, .inl ((jcy Γ) 0, 40, .inl (fun _ => 0))), (q3, .inl ((jcy Γ) 0, 40, .inl (fun _ => 0))), (q4, .inl ((jcy Γ) 0, 40, .inl (fun _ => 0))), (q5, .inl ((jcy Γ) 0, 7, .inl (fun _ => 0)))]) (k0 := 6) 0 (pc' := 48) hC dX0_init_45 rfl cls0 (by decide) fi_X0_27.2.2.1 rfl rfl ⟨rfl, rfl⟩ rfl (Nat.le_of_ble_eq_true rfl) rfl ?_
  refine c_aload_n 0 (pc' := 49) hC dX0_init_48 rfl rfl ?_
  refine c_iconst (v := 0) (pc' := 50) hC dX0_init_49 rfl rfl ?_
  refine c_put (ws' := [(h0, .inr (0, [.null, .ref q1, .ref q2, .ref q3, .ref q4, .ref q5, .int 0, .int 0, .int 0, .int 0, .int 0, .int 0])), (q1, .inl ((jcy Γ) 0, 3, .inl (fun _ => 0))), (q2, .inl ((jcy Γ) 0, 40, .inl (fun _ => 0))), (q3, .inl ((jcy Γ) 0, 40, .inl (fun _ => 0))), (q4, .inl ((jcy Γ) 0, 40, .inl (fun _ => 0))), (q5, .inl ((jcy Γ) 0, 7, .inl (fun _ => 0)))]) (k0 := 7) 0 (pc' := 53) hC dX0_init_50 rfl cls0 (by decide) fi_X0_31.2.2.1 rfl rfl ⟨rfl, rfl⟩ rfl (Nat.le_of_ble_eq_true rfl) rfl ?_
  refine c_aload_n 0 (pc' := 54) hC dX0_init_53 rfl rfl ?_
  refine c_iconst (v := 0) (pc' := 55) hC dX0_init_54 rfl rfl ?_
  refine c_put (ws' := [(h0, .inr (0, [.null, .ref q1, .ref q2, .ref q3, .ref q4, .ref q5, .int 0, .int 0, .int 0, .int 0, .int 0, .int 0])), (q1, .inl ((jcy Γ) 0, 3, .inl (fun _ => 0))), (q2, .inl ((jcy Γ) 0, 40, .inl (fun _ => 0))), (q3, .inl ((jcy Γ) 0, 40, .inl (fun _ => 0))), (q4, .inl ((jcy Γ) 0, 40, .inl (fun _ => 0))), (q5, .inl ((jcy Γ) 0, 7, .inl (fun _ => 0)))]) (k0 := 8) 0 (pc' := 58) hC dX0_init_55 rfl cls0 (by decide) fi_X0_34.2.2.1 rfl rfl ⟨rfl, rfl⟩ rfl (Nat.le_of_ble_eq_true rfl) rfl ?_
  refine c_aload_n 0 (pc' := 59) hC dX0_init_58 rfl rfl ?_
  refine c_iconst (v := 0) (pc' := 60) hC dX0_init_59 rfl rfl ?_
  refine c_put (ws' := [(h0, .inr (0, [.null, .ref q1, .ref q2, .ref q3, .ref q4, .ref q5, .int 0, .int 0, .int 0, .int 0, .int 0, .int 0])), (q1, .inl ((jcy Γ) 0, 3, .inl (fun _ => 0))), (q2, .inl ((jcy Γ) 0, 40, .inl (fun _ => 0))), (q3, .inl ((jcy Γ) 0, 40, .inl (fun _ => 0))), (q4, .inl ((jcy Γ) 0, 40, .inl (fun _ => 0))), (q5, .inl ((jcy Γ) 0, 7, .inl (fun _ => 0)))]) (k0 := 9) 0 (pc' := 63) hC dX0_init_60 rfl cls0 (by decide) fi_X0_37.2.2.1 rfl rfl ⟨rfl, rfl⟩ rfl (Nat.le_of_ble_eq_true rfl) rfl ?_
  refine c_aload_n 0 (pc' := 64) hC dX0_init_63 rfl rfl ?_
  refine c_iconst (v := 0) (pc' := 65) hC dX0_init_64 rfl rfl ?_
  refine c_put (ws' := [(h0, .inr (0, [.null, .ref q1, .ref q2, .ref q3, .ref q4, .ref q5, .int 0, .int 0, .int 0, .int 0, .int 0, .int 0])), (q1, .inl ((jcy Γ) 0, 3, .inl (fun _ => 0))), (q2, .inl ((jcy Γ) 0, 40, .inl (fun _ => 0))), (q3, .inl ((jcy Γ) 0, 40, .inl (fun _ => 0))), (q4, .inl ((jcy Γ) 0, 40, .inl (fun _ => 0))), (q5, .inl ((jcy Γ) 0, 7, .inl (fun _ => 0)))]) (k0 := 10) 0 (pc' := 68) hC dX0_init_65 rfl cls0 (by decide) fi_X0_40.2.2.1 rfl rfl ⟨rfl, rfl⟩ rfl (Nat.le_of_ble_eq_true rfl) rfl ?_
  refine c_aload_n 0 (pc' := 69) hC dX0_init_68 rfl rfl ?_
  refine c_iconst (v := 0) (pc' := 70) hC dX0_init_69 rfl rfl ?_
  refine c_put (ws' := [(h0, .inr (0, [.null, .ref q1, .ref q2, .ref q3, .ref q4, .ref q5, .int 0, .int 0, .int 0, .int 0, .int 0, .int 0])), (q1, .inl ((jcy Γ) 0, 3, .inl (fun _ => 0))), (q2, .inl ((jcy Γ) 0, 40, .inl (fun _ => 0))), (q3, .inl ((jcy Γ) 0, 40, .inl (fun _ => 0))), (q4, .inl ((jcy Γ) 0, 40, .inl (fun _ => 0))), (q5, .inl ((jcy Γ) 0, 7, .inl (fun _ => 0)))]) (k0 := 11) 0 (pc' := 73) hC dX0_init_70 rfl cls0 (by decide) fi_X0_43.2.2.1 rfl rfl ⟨rfl, rfl⟩ rfl (Nat.le_of_ble_eq_true rfl) rfl ?_
  refine c_aload_n 0 (pc' := 74) hC dX0_init_73 rfl rfl ?_
  refine c_aload_n 1 (pc' := 75) hC dX0_init_74 rfl rfl ?_
  refine c_put (ws' := [(h0, .inr (0, [.ref pl, .ref q1, .ref q2, .ref q3, .ref q4, .ref q5, .int 0, .int 0, .int 0, .int 0, .int 0, .int 0])), (q1, .inl ((jcy Γ) 0, 3, .inl (fun _ => 0))), (q2, .inl ((jcy Γ) 0, 40, .inl (fun _ => 0))), (q3, .inl ((jcy Γ) 0, 40, .inl (fun _ => 0))), (q4, .inl ((jcy Γ) 0, 40, .inl (fun _ => 0))), (q5, .inl ((jcy Γ) 0, 7, .inl (fun _ => 0)))]) (k0 := 0) 0 (pc' := 78) hC dX0_init_75 rfl cls0 (by decide) fi_X0_46.2.2.1 rfl rfl ⟨rfl, rfl⟩ rfl (Nat.le_of_ble_eq_true rfl) rfl ?_
  refine c_gets 0 (pc' := 81) hC dX0_init_78 rfl (by decide) (by decide +kernel) ?_
  refine c_iconst (v := 0) (pc' := 82) hC dX0_init_81 rfl rfl ?_
  refine c_aload_n 0 (pc' := 83) hC dX0_init_82 rfl rfl ?_
  refine c_get (k0 := 1) 0 (pc' := 86) hC dX0_init_83 rfl cls0 (by decide) fi_X0_9.2.2.1 rfl rfl ?_
  refine c_iconst (v := 0) (pc' := 87) hC dX0_init_86 rfl rfl ?_
  refine c_iconst (v := 3) (pc' := 88) hC dX0_init_87 rfl rfl ?_
  refine c_scopy (ws' := [(h0, .inr (0, [.ref pl, .ref q1, .ref q2, .ref q3, .ref q4, .ref q5, .int 0, .int 0, .int 0, .int 0, .int 0, .int 0])), (q1, .inl ((jcy Γ) 0, 3, .inl (va_cpy (fun q => (jsI 0).getD q 0) (fun _ => 0) 0 0 3))), (q2, .inl ((jcy Γ) 0, 40, .inl (fun _ => 0))), (q3, .inl ((jcy Γ) 0, 40, .inl (fun _ => 0))), (q4, .inl ((jcy Γ) 0, 40, .inl (fun _ => 0))), (q5, .inl ((jcy Γ) 0, 7, .inl (fun _ => 0)))]) (N := 3) 0 1 (pc' := 91) hC dX0_init_88 rfl ca_X0_53 rfl (by decide) ⟨by decide, rfl, by decide, by decide⟩ ⟨Nat.le_of_ble_eq_true rfl, Nat.le_of_ble_eq_true rfl⟩ rfl ?_
  refine c_aload_n 0 (pc' := 92) hC dX0_init_91 rfl rfl ?_
  refine c_get (k0 := 5) 0 (pc' := 95) hC dX0_init_92 rfl cls0 (by decide) fi_X0_24.2.2.1 rfl rfl ?_
  refine c_bipush (v := -9) (pc' := 97) hC dX0_init_95 rfl rfl ?_
  refine c_fill (ws' := [(h0, .inr (0, [.ref pl, .ref q1, .ref q2, .ref q3, .ref q4, .ref q5, .int 0, .int 0, .int 0, .int 0, .int 0, .int 0])), (q1, .inl ((jcy Γ) 0, 3, .inl (va_cpy (fun q => (jsI 0).getD q 0) (fun _ => 0) 0 0 3))), (q2, .inl ((jcy Γ) 0, 40, .inl (fun _ => 0))), (q3, .inl ((jcy Γ) 0, 40, .inl (fun _ => 0))), (q4, .inl ((jcy Γ) 0, 40, .inl (fun _ => 0))), (q5, .inl ((jcy Γ) 0, 7, .inl (fun k => if k < 7 then -9 else 0)))]) (N := 7) 5 (pc' := 100) hC dX0_init_97 rfl (by decide) cs_X0_59 rfl ⟨⟨Nat.le_of_ble_eq_true rfl, Nat.le_of_ble_eq_true rfl⟩, Nat.le_of_ble_eq_true rfl, Nat.le_of_ble_eq_true rfl, Nat.le_of_ble_eq_true rfl⟩ rfl ?_
  exact c_vret (fun i => [q1, q2, q3, q4, q5].getD i 0) hC dX0_init_100 [0, 1, 2, 3, 4, 5] rfl rfl
set_option maxRecDepth 100000 in
set_option maxHeartbeats 4000000 in
theorem ct_X1 (l : Launch) (E : cE) (h0 pl : Nat) : cCt l yX1_init cX1_init 2 1 2 768 20 E [.ref h0, .ref pl] [(h0, .inr (1, [.null, .null, .null, .int 0, .int 0, .int 0, .int 0]))] (w1 E.2.1 h0 pl) := by
  refine cCt_of (own := RX1) (by decide) rfl rfl (Nat.le_of_ble_eq_true rfl) ?_
  intro Γ hC hE hl
  subst hE
  subst hl
  rw [cEcy]
  show cJ Γ [(h0, .inr (1, [.null, .null, .null, .int 0, .int 0, .int 0, .int 0]))] 0 0 0 [(0, .ref h0), (1, .ref pl)] [] _
  refine c_aload_n 0 (pc' := 1) hC dX1_init_0 rfl rfl ?_
  refine c_obj (pc' := 4) hC dX1_init_1 rfl ko_X1_3 ⟨Nat.le_of_ble_eq_true rfl, Nat.le_of_ble_eq_true rfl⟩ ?_
  refine c_aload_n 0 (pc' := 5) hC dX1_init_4 rfl rfl ?_
  refine c_sipush (v := 384) (pc' := 8) hC dX1_init_5 rfl rfl ?_
  refine c_new1 (N := 384) (pc' := 10) hC dX1_init_8 rfl ac_long ⟨by decide, rfl, by decide⟩ ⟨Nat.le_of_ble_eq_true rfl, Nat.le_of_ble_eq_true rfl⟩ (fun q1 => ?_)
  show cJ Γ [(h0, .inr (1, [.null, .null, .null, .int 0, .int 0, .int 0, .int 0])), (q1, .inl ((jcy Γ) 1, 384, .inr (.inl (fun _ => 0))))] 1 384 10 [(0, .ref h0), (1, .ref pl)] [.ref q1, .ref h0] _
  refine c_put (ws' := [(h0, .inr (1, [.null, .ref q1, .null, .int 0, .int 0, .int 0, .int 0])), (q1, .inl ((jcy Γ) 1, 384, .inr (.inl (fun _ => 0))))]) (k0 := 1) 0 (pc' := 13) hC dX1_init_10 rfl cls1 (by decide) fi_X1_9.2.2.1 rfl rfl ⟨rfl, rfl⟩ rfl (Nat.le_of_ble_eq_true rfl) rfl ?_
  refine c_aload_n 0 (pc' := 14) hC dX1_init_13 rfl rfl ?_
  refine c_sipush (v := 384) (pc' := 17) hC dX1_init_14 rfl rfl ?_
  refine c_new1 (N := 384) (pc' := 19) hC dX1_init_17 rfl ac_long ⟨by decide, rfl, by decide⟩ ⟨Nat.le_of_ble_eq_true rfl, Nat.le_of_ble_eq_true rfl⟩ (fun q2 => ?_)
  show cJ Γ [(h0, .inr (1, [.null, .ref q1, .null, .int 0, .int 0, .int 0, .int 0])), (q1, .inl ((jcy Γ) 1, 384, .inr (.inl (fun _ => 0)))), (q2, .inl ((jcy Γ) 1, 384, .inr (.inl (fun _ => 0))))] 2 768 19 [(0, .ref h0), (1, .ref pl)] [.ref q2, .ref h0] _
  refine c_put (ws' := [(h0, .inr (1, [.null, .ref q1, .ref q2, .int 0, .int 0, .int 0, .int 0])), (q1, .inl ((jcy Γ) 1, 384, .inr (.inl (fun _ => 0)))), (q2, .inl ((jcy Γ) 1, 384, .inr (.inl (fun _ => 0))))]) (k0 := 2) 0 (pc' := 22) hC dX1_init_19 rfl cls1 (by decide) fi_X1_15.2.2.1 rfl rfl ⟨rfl, rfl⟩ rfl (Nat.le_of_ble_eq_true rfl) rfl ?_
  refine c_aload_n 0 (pc' := 23) hC dX1_init_22 rfl rfl ?_
  refine c_iconst (v := 0) (pc' := 24) hC dX1_init_23 rfl rfl ?_
  refine c_put (ws' := [(h0, .inr (1, [.null, .ref q1, .ref q2, .int 0, .int 0, .int 0, .int 0])), (q1, .inl ((jcy Γ) 1, 384, .inr (.inl (fun _ => 0)))), (q2, .inl ((jcy Γ) 1, 384, .inr (.inl (fun _ => 0))))]) (k0 := 3) 0 (pc' := 27) hC dX1_init_24 rfl cls1 (by decide) fi_X1_18.2.2.1 rfl rfl ⟨rfl, rfl⟩ rfl (Nat.le_of_ble_eq_true rfl) rfl ?_
  refine c_aload_n 0 (pc' := 28) hC dX1_init_27 rfl rfl ?_
  refine c_iconst (v := 0) (pc' := 29) hC dX1_init_28 rfl rfl ?_
  refine c_put (ws' := [(h0, .inr (1, [.null, .ref q1, .ref q2, .int 0, .int 0, .int 0, .int 0])), (q1, .inl ((jcy Γ) 1, 384, .inr (.inl (fun _ => 0)))), (q2, .inl ((jcy Γ) 1, 384, .inr (.inl (fun _ => 0))))]) (k0 := 4) 0 (pc' := 32) hC dX1_init_29 rfl cls1 (by decide) fi_X1_22.2.2.1 rfl rfl ⟨rfl, rfl⟩ rfl (Nat.le_of_ble_eq_true rfl) rfl ?_
  refine c_aload_n 0 (pc' := 33) hC dX1_init_32 rfl rfl ?_
  refine c_iconst (v := 0) (pc' := 34) hC dX1_init_33 rfl rfl ?_
  refine c_put (ws' := [(h0, .inr (1, [.null, .ref q1, .ref q2, .int 0, .int 0, .int 0, .int 0])), (q1, .inl ((jcy Γ) 1, 384, .inr (.inl (fun _ => 0)))), (q2, .inl ((jcy Γ) 1, 384, .inr (.inl (fun _ => 0))))]) (k0 := 5) 0 (pc' := 37) hC dX1_init_34 rfl cls1 (by decide) fi_X1_25.2.2.1 rfl rfl ⟨rfl, rfl⟩ rfl (Nat.le_of_ble_eq_true rfl) rfl ?_
  refine c_aload_n 0 (pc' := 38) hC dX1_init_37 rfl rfl ?_
  refine c_iconst (v := 0) (pc' := 39) hC dX1_init_38 rfl rfl ?_
  refine c_put (ws' := [(h0, .inr (1, [.null, .ref q1, .ref q2, .int 0, .int 0, .int 0, .int 0])), (q1, .inl ((jcy Γ) 1, 384, .inr (.inl (fun _ => 0)))), (q2, .inl ((jcy Γ) 1, 384, .inr (.inl (fun _ => 0))))]) (k0 := 6) 0 (pc' := 42) hC dX1_init_39 rfl cls1 (by decide) fi_X1_28.2.2.1 rfl rfl ⟨rfl, rfl⟩ rfl (Nat.le_of_ble_eq_true rfl) rfl ?_
  refine c_aload_n 0 (pc' := 43) hC dX1_init_42 rfl rfl ?_
  refine c_aload_n 1 (pc' := 44) hC dX1_init_43 rfl rfl ?_
  refine c_put (ws' := [(h0, .inr (1, [.ref pl, .ref q1, .ref q2, .int 0, .int 0, .int 0, .int 0])), (q1, .inl ((jcy Γ) 1, 384, .inr (.inl (fun _ => 0)))), (q2, .inl ((jcy Γ) 1, 384, .inr (.inl (fun _ => 0))))]) (k0 := 0) 0 (pc' := 47) hC dX1_init_44 rfl cls1 (by decide) fi_X1_31.2.2.1 rfl rfl ⟨rfl, rfl⟩ rfl (Nat.le_of_ble_eq_true rfl) rfl ?_
  exact c_vret (fun i => [q1, q2].getD i 0) hC dX1_init_47 [0, 1, 2] rfl rfl
