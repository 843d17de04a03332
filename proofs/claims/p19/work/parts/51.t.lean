/-! the state of a new object -/
theorem J2_sg0 : J2 D0 sg0 := by
  refine ⟨J_sg0, P0, ⟨P0_b, by decide +kernel, by decide +kernel, by decide +kernel, by decide +kernel, fun j hj => absurd hj (Nat.not_lt_zero j), fun j hj => absurd hj (Nat.not_lt_zero j), fun j hj => absurd hj (Nat.not_lt_zero j)⟩, ⟨by decide +kernel, by decide +kernel, by decide +kernel, by decide +kernel, fun j hj => absurd hj (Nat.not_lt_zero j), fun j hj => absurd hj (Nat.not_lt_zero j), fun j hj => absurd hj (Nat.not_lt_zero j)⟩, fun c hc => ?_, ⟨0, 0, by decide +kernel, by omega, by decide +kernel, by omega, by decide +kernel, fun k hk => absurd hk (Nat.not_lt_zero k)⟩, fun i hi h0 => ?_, by decide +kernel⟩
  · have e : P0.1 2 = 0 := rfl
    have d : c = 0 ∨ c = 1 := by rw [e] at hc; omega
    rcases d with rfl | rfl
    · decide +kernel
    · decide +kernel
  · have ci : i = 0 ∨ i = 1 := by omega
    rcases ci with rfl | rfl
    · exact absurd (by decide +kernel) h0
    · exact absurd (by decide +kernel) h0
