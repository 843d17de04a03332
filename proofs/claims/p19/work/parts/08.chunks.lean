theorem chkD_ok (y : Nat) (h : y < 194) : chkD y = true := by
  by_cases h0 : y < 40
  · exact rng_all _ _ kD_0 y (by omega) (by omega)
  by_cases h1 : y < 80
  · exact rng_all _ _ kD_1 y (by omega) (by omega)
  by_cases h2 : y < 120
  · exact rng_all _ _ kD_2 y (by omega) (by omega)
  by_cases h3 : y < 160
  · exact rng_all _ _ kD_3 y (by omega) (by omega)
  · exact rng_all _ _ kD_4 y (by omega) (by omega)
theorem chkL_ok : ∀ q ∈ pins.getD 194 [], chkD1 (mcd 194) q = true := by
  refine chunks_all _ 60 12 (by decide +kernel) (fun k hk => ?_)
  match k, hk with
  | 0, _ => exact kL_0
  | 1, _ => exact kL_1
  | 2, _ => exact kL_2
  | 3, _ => exact kL_3
  | 4, _ => exact kL_4
  | 5, _ => exact kL_5
  | 6, _ => exact kL_6
  | 7, _ => exact kL_7
  | 8, _ => exact kL_8
  | 9, _ => exact kL_9
  | 10, _ => exact kL_10
  | 11, _ => exact kL_11
  | k + 12, hk => exact absurd hk (by omega)
theorem chkC_ok (y : Nat) (h : y < 195) : chkC y = true := by
  by_cases h0 : y < 25
  · exact rng_all _ _ kC_0 y (by omega) (by omega)
  by_cases h25 : y < 50
  · exact rng_all _ _ kC_1 y (by omega) (by omega)
  by_cases h50 : y < 75
  · exact rng_all _ _ kC_2 y (by omega) (by omega)
  by_cases h75 : y < 100
  · exact rng_all _ _ kC_3 y (by omega) (by omega)
  by_cases h100 : y < 125
  · exact rng_all _ _ kC_4 y (by omega) (by omega)
  by_cases h125 : y < 150
  · exact rng_all _ _ kC_5 y (by omega) (by omega)
  by_cases h150 : y < 175
  · exact rng_all _ _ kC_6 y (by omega) (by omega)
  by_cases h175 : y < 195
  · exact rng_all _ _ kC_7 y (by omega) (by omega)
  · exact absurd h (by omega)
