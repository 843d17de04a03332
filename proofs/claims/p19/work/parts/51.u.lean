/-! a new object, all that is shared -/
theorem J3_sg0 : J3 sg0 := by
  have hx : XP sg0 P0 := ⟨P0_b, by decide +kernel, by decide +kernel, by decide +kernel, by decide +kernel, fun j hj => absurd hj (Nat.not_lt_zero j), fun j hj => absurd hj (Nat.not_lt_zero j), fun j hj => absurd hj (Nat.not_lt_zero j)⟩
  have e : P0.1 2 = 0 := rfl
  refine ⟨⟨J_sg0, P0, hx, ⟨by decide +kernel, by decide +kernel, by decide +kernel, by decide +kernel, fun j hj => absurd hj (Nat.not_lt_zero j), fun j hj => absurd hj (Nat.not_lt_zero j), fun j hj => absurd hj (Nat.not_lt_zero j)⟩, fun c hc => ?_, ⟨0, 0, by decide +kernel, by omega, by decide +kernel, by omega, by decide +kernel, fun k hk => absurd hk (Nat.not_lt_zero k)⟩, fun i hi h0 => ?_, by decide +kernel⟩, ⟨P0, hx, fun l hl => absurd hl (Nat.not_lt_zero l), ⟨fun i => i, ⟨fun i hi => absurd hi (Nat.not_lt_zero i), fun i j _ hj => absurd hj (Nat.not_lt_zero j), fun l hl => absurd hl (Nat.not_lt_zero l)⟩, fun i hi => absurd hi (Nat.not_lt_zero i)⟩, ⟨fun i _ => ?_, fun m hm => absurd hm (Nat.not_lt_zero m), by decide +kernel⟩, ⟨0, 0, by decide +kernel, by omega, by decide +kernel, by omega, fun k hk => absurd hk (Nat.not_lt_zero k)⟩, fun i hi h0 => ?_⟩, fun j hj => ?_, fun j hj => ?_⟩
  · have d : c = 0 ∨ c = 1 ∨ c = 2 ∨ c = 3 := by rw [e] at hc; omega
    rcases d with rfl | rfl | rfl | rfl
    · decide +kernel
    · decide +kernel
    · decide +kernel
    · decide +kernel
  · have ci : i = 0 ∨ i = 1 := by omega
    rcases ci with rfl | rfl
    · exact absurd (by decide +kernel) h0
    · exact absurd (by decide +kernel) h0
  · have z : cls sg0 0 = 0 := by decide +kernel
    rw [z]; exact b_0 i
  · have ci : i = 0 ∨ i = 1 := by omega
    rcases ci with rfl | rfl
    · exact absurd (by decide +kernel) h0
    · exact absurd (by decide +kernel) h0
  · have z : (sg0 29 0).toNatClampNeg = 0 := by decide +kernel
    rw [z] at hj; exact absurd hj (Nat.not_lt_zero j)
  · have z : (sg0 29 1).toNatClampNeg = 0 := by decide +kernel
    rw [z] at hj; exact absurd hj (Nat.not_lt_zero j)
