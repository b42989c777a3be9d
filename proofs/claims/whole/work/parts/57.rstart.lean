/-! how both begin: no house yet -/
section KF
/-- a relation of two fresh memories, told by what they hold -/
theorem P_start {Mx Mm : jM} (a9 : gi Mx 0 9 = 0) (a10 : gi Mx 0 10 = 0) (a11 : gl Mx 0 11 = 0) (a12 : gl Mx 0 12 = 1) (a68 : ∀ f, gi Mx 68 f = 0) (b16 : gi Mm 0 16 = 0) (b17 : gl Mm 0 17 = 0) (b18 : gl Mm 0 18 = 1) (b19 : gi Mm 0 19 = 0) (b14 : ∀ f, gi Mm 14 f = 0)
    (r2 : ∀ r, r < 6 → gi Mx 2 r = -1) (r1 : ∀ r, r < 6 → gi Mm 1 r = -1) (rc : ∀ r, r < 6 → ∀ k, gi Mx (4 + r) k = 0) (rm : ∀ k, gi Mm 2 k = 0)
    (t11 : ∀ r, r < 4 → gi Mx 11 r = -1) (t3 : ∀ r, r < 4 → gi Mm 3 r = -1) (tc : ∀ r, r < 4 → ∀ k, gi Mx (13 + r) k = 0) (tm' : ∀ k, gi Mm 4 k = 0)
    (p0 : gi Mx 29 0 = 0) (p1 : gi Mx 29 1 = 0) (m7 : gi Mm 0 7 = 0) (m11 : gi Mm 0 11 = 0)
    (c6 : ∀ k, gi Mx 39 k = 0) (c40 : ∀ k, k < 3 → gi Mx 40 k = nI (c0 0 k)) (c44 : ∀ k, k < 7 → gi Mx 44 k = -9)
    (s15 : gi Mm 0 15 = 0) (s12 : ∀ k, gi Mm 12 k = 0) (s11 : ∀ k, k < 3 → gi Mm 11 k = nI (c0 0 k))
    (k64 : ∀ k, gi Mx 64 k = 0) (k18 : ∀ k, gi Mm 18 k = 0) : Rl Q1 Mx Mm := by
  refine ⟨⟨by rw [a9, b19], by rw [a10, b16], by rw [a11, b17], by rw [a12, b18], fun f _ => by rw [a68, b14]⟩, fun r hr => ⟨by rw [r2 r hr, r1 r hr], Or.inl (r2 r hr), fun k _ => by rw [rc r hr, rm]⟩, fun r hr => ⟨by rw [t11 r hr, t3 r hr], Or.inl (t11 r hr), fun k _ => by rw [tc r hr, tm']⟩, fun _ _ => 0, c0, ?_⟩
  refine ⟨⟨by decide, by decide, fun _ => rfl, fun i hi => absurd hi (Nat.not_lt_zero _), fun i hi => absurd hi (Nat.not_lt_zero _)⟩, ⟨p0, p1, fun i hi => absurd hi (Nat.not_lt_zero _), fun i hi => absurd hi (Nat.not_lt_zero _)⟩, ⟨m7, m11, fun i hi => absurd hi (Nat.not_lt_zero _), fun i hi => absurd hi (Nat.not_lt_zero _)⟩, c0_ok, ⟨c6 6, fun j _ => c6 (7 + j), c40, fun s hs => absurd hs (Nat.not_lt_zero _), fun h hh => c44 h hh⟩, ⟨s15, fun k hk hv => ?_, fun s hs => absurd hs (Nat.not_lt_zero _), s11⟩, fun k _ => Or.inl ⟨k64 k, k18 k⟩⟩
  rcases hv with hv | hv
  · show gi Mm 12 k = enc k 0
    unfold enc
    rw [if_pos hv]; exact s12 k
  · exact absurd rfl hv
end KF
