/-! a new object, with the weights' first cells -/
theorem J4_sg0 : J4 sg0 := ⟨J3_sg0, by decide +kernel, by decide +kernel⟩
