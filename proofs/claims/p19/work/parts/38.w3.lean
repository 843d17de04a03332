/-! survey, feed, the book, images -/
theorem hw_55 : pins.getD 55 [] = pi_55 := rfl
/-! MapDuty.survey.()I -/
set_option maxRecDepth 20000 in
theorem w_55  {σ : St} {K : Int32 → St → Prop} (h : CI 23 [.ref 1, .ref 3] σ (fun v1 σ1 => (if v1 = 0 then CV 13 [.ref 11, .ref 3] (s2 σ1 0 10 (σ1 1 2)) (fun σ2 => CV 49 [.ref 19, .ref 11] σ2 (fun σ3 => CV 0 [.ref 29] σ3 (fun σ4 => CV 11 [.ref 24] σ4 (fun σ5 => K (σ5 11 1) (s2 σ5 0 11 0))))) else K ((-10) - v1) (s2 σ1 0 10 (σ1 1 2))))) : CI 55 [.ref 0] σ K := by
  show PW none 55 0 [some (.ref 0), none] [] σ _
  refine PW.runs hw_55 rfl 4 (q := (0, [some (.ref 0), none], [], σ)) (q' := (8, [some (.ref 0), none], [.ref 3, .ref 1], σ)) rfl ?_
  refine PW.callV (b := 1) (vs := [.ref 3]) (rest := []) (ins_l hw_55 rfl) rfl rfl rfl (Nat.le_of_ble_eq_true rfl) (Nat.le_of_ble_eq_true rfl) (PW.mono h ?_)
  rintro _ σ1 ⟨v1, rfl, h⟩
  show PW none 55 11 [some (.ref 0), none] [.int v1] σ1 _
  refine PW.runs hw_55 rfl 7 (q := (11, [some (.ref 0), none], [.int v1], σ1)) (q' := (24, [some (.ref 0), some (.int v1)], [.int v1], (s2 σ1 0 10 (σ1 1 2)))) rfl ?_
  refine PW.ifc (t := 32) (ins_l hw_55 rfl) rfl (fun hc1 => ?_) (fun hc1 => ?_)
  · replace h := (if_pos (c_eqT hc1)).mp h
    refine PW.runs hw_55 rfl 4 (q := (32, [some (.ref 0), some (.int v1)], [], (s2 σ1 0 10 (σ1 1 2)))) (q' := (40, [some (.ref 0), some (.int v1)], [.ref 3, .ref 11], (s2 σ1 0 10 (σ1 1 2)))) rfl ?_
    refine PW.callV (b := 11) (vs := [.ref 3]) (rest := []) (ins_l hw_55 rfl) rfl rfl rfl (Nat.le_of_ble_eq_true rfl) (Nat.le_of_ble_eq_true rfl) (PW.mono h ?_)
    rintro _ σ2 ⟨rfl, h⟩
    show PW none 55 43 [some (.ref 0), some (.int v1)] [] σ2 _
    refine PW.runs hw_55 rfl 4 (q := (43, [some (.ref 0), some (.int v1)], [], σ2)) (q' := (51, [some (.ref 0), some (.int v1)], [.ref 11, .ref 19], σ2)) rfl ?_
    refine PW.callV (b := 19) (vs := [.ref 11]) (rest := []) (ins_l hw_55 rfl) rfl rfl rfl (Nat.le_of_ble_eq_true rfl) (Nat.le_of_ble_eq_true rfl) (PW.mono h ?_)
    rintro _ σ3 ⟨rfl, h⟩
    show PW none 55 54 [some (.ref 0), some (.int v1)] [] σ3 _
    refine PW.runs hw_55 rfl 2 (q := (54, [some (.ref 0), some (.int v1)], [], σ3)) (q' := (58, [some (.ref 0), some (.int v1)], [.ref 29], σ3)) rfl ?_
    refine PW.callV (b := 29) (vs := []) (rest := []) (ins_l hw_55 rfl) rfl rfl rfl (Nat.le_of_ble_eq_true rfl) (Nat.le_of_ble_eq_true rfl) (PW.mono h ?_)
    rintro _ σ4 ⟨rfl, h⟩
    show PW none 55 61 [some (.ref 0), some (.int v1)] [] σ4 _
    refine PW.runs hw_55 rfl 2 (q := (61, [some (.ref 0), some (.int v1)], [], σ4)) (q' := (65, [some (.ref 0), some (.int v1)], [.ref 24], σ4)) rfl ?_
    refine PW.callV (b := 24) (vs := []) (rest := []) (ins_l hw_55 rfl) rfl rfl rfl (Nat.le_of_ble_eq_true rfl) (Nat.le_of_ble_eq_true rfl) (PW.mono h ?_)
    rintro _ σ5 ⟨rfl, h⟩
    show PW none 55 68 [some (.ref 0), some (.int v1)] [] σ5 _
    refine PW.runs hw_55 rfl 6 (q := (68, [some (.ref 0), some (.int v1)], [], σ5)) (q' := (80, [some (.ref 0), some (.int v1)], [.int (σ5 11 1)], (s2 σ5 0 11 0))) rfl ?_
    exact PW.iret (ins_l hw_55 rfl) (Or.inl rfl) ⟨_, rfl, h⟩
  · replace h := (if_neg (c_eqF hc1)).mp h
    refine PW.runs hw_55 rfl 3 (q := (27, [some (.ref 0), some (.int v1)], [], (s2 σ1 0 10 (σ1 1 2)))) (q' := (31, [some (.ref 0), some (.int v1)], [.int ((-10) - v1)], (s2 σ1 0 10 (σ1 1 2)))) rfl ?_
    exact PW.iret (ins_l hw_55 rfl) (Or.inl rfl) ⟨_, rfl, h⟩
theorem hw_13 : pins.getD 13 [] = pi_13 := rfl
/-! MapDuty$Plan.become.(LMapDuty$Plan;)V -/
set_option maxRecDepth 20000 in
theorem w_13  {σ : St} {K : St → Prop} (h : K (sr (sr (sr (sr (sr (sr (sr (s2 (s2 (s2 (s2 (s2 σ 11 0 (σ 3 0)) 11 1 (σ 3 1)) 11 2 (σ 3 2)) 11 3 (σ 3 3)) 11 4 (σ 3 4)) 12 (va_cpy (σ 4) (σ 12) 0 0 12)) 13 (va_cpy (σ 5) (σ 13) 0 0 12)) 14 (va_cpy (σ 6) (σ 14) 0 0 12)) 15 (va_cpy (σ 7) (σ 15) 0 0 12)) 16 (va_cpy (σ 8) (σ 16) 0 0 5)) 17 (va_cpy (σ 9) (σ 17) 0 0 5)) 18 (va_cpy (σ 10) (σ 18) 0 0 4))) : CV 13 [.ref 11, .ref 3] σ K := by
  show PW none 13 0 [some (.ref 11), some (.ref 3)] [] σ _
  refine PW.runs hw_13 rfl 27 (q := (0, [some (.ref 11), some (.ref 3)], [], σ)) (q' := (52, [some (.ref 11), some (.ref 3)], [.int 12, .int 0, .ref 12, .int 0, .ref 4], (s2 (s2 (s2 (s2 (s2 σ 11 0 (σ 3 0)) 11 1 (σ 3 1)) 11 2 (σ 3 2)) 11 3 (σ 3 3)) 11 4 (σ 3 4)))) rfl ?_
  refine PW.copy (q := (55, [some (.ref 11), some (.ref 3)], [], (sr (s2 (s2 (s2 (s2 (s2 σ 11 0 (σ 3 0)) 11 1 (σ 3 1)) 11 2 (σ 3 2)) 11 3 (σ 3 3)) 11 4 (σ 3 4)) 12 (va_cpy (σ 4) (σ 12) 0 0 12)))) (ins_l hw_13 rfl) rfl rfl ?_
  refine PW.runs hw_13 rfl 7 (q := (55, [some (.ref 11), some (.ref 3)], [], (sr (s2 (s2 (s2 (s2 (s2 σ 11 0 (σ 3 0)) 11 1 (σ 3 1)) 11 2 (σ 3 2)) 11 3 (σ 3 3)) 11 4 (σ 3 4)) 12 (va_cpy (σ 4) (σ 12) 0 0 12)))) (q' := (67, [some (.ref 11), some (.ref 3)], [.int 12, .int 0, .ref 13, .int 0, .ref 5], (sr (s2 (s2 (s2 (s2 (s2 σ 11 0 (σ 3 0)) 11 1 (σ 3 1)) 11 2 (σ 3 2)) 11 3 (σ 3 3)) 11 4 (σ 3 4)) 12 (va_cpy (σ 4) (σ 12) 0 0 12)))) rfl ?_
  refine PW.copy (q := (70, [some (.ref 11), some (.ref 3)], [], (sr (sr (s2 (s2 (s2 (s2 (s2 σ 11 0 (σ 3 0)) 11 1 (σ 3 1)) 11 2 (σ 3 2)) 11 3 (σ 3 3)) 11 4 (σ 3 4)) 12 (va_cpy (σ 4) (σ 12) 0 0 12)) 13 (va_cpy (σ 5) (σ 13) 0 0 12)))) (ins_l hw_13 rfl) rfl rfl ?_
  refine PW.runs hw_13 rfl 7 (q := (70, [some (.ref 11), some (.ref 3)], [], (sr (sr (s2 (s2 (s2 (s2 (s2 σ 11 0 (σ 3 0)) 11 1 (σ 3 1)) 11 2 (σ 3 2)) 11 3 (σ 3 3)) 11 4 (σ 3 4)) 12 (va_cpy (σ 4) (σ 12) 0 0 12)) 13 (va_cpy (σ 5) (σ 13) 0 0 12)))) (q' := (82, [some (.ref 11), some (.ref 3)], [.int 12, .int 0, .ref 14, .int 0, .ref 6], (sr (sr (s2 (s2 (s2 (s2 (s2 σ 11 0 (σ 3 0)) 11 1 (σ 3 1)) 11 2 (σ 3 2)) 11 3 (σ 3 3)) 11 4 (σ 3 4)) 12 (va_cpy (σ 4) (σ 12) 0 0 12)) 13 (va_cpy (σ 5) (σ 13) 0 0 12)))) rfl ?_
  refine PW.copy (q := (85, [some (.ref 11), some (.ref 3)], [], (sr (sr (sr (s2 (s2 (s2 (s2 (s2 σ 11 0 (σ 3 0)) 11 1 (σ 3 1)) 11 2 (σ 3 2)) 11 3 (σ 3 3)) 11 4 (σ 3 4)) 12 (va_cpy (σ 4) (σ 12) 0 0 12)) 13 (va_cpy (σ 5) (σ 13) 0 0 12)) 14 (va_cpy (σ 6) (σ 14) 0 0 12)))) (ins_l hw_13 rfl) rfl rfl ?_
  refine PW.runs hw_13 rfl 7 (q := (85, [some (.ref 11), some (.ref 3)], [], (sr (sr (sr (s2 (s2 (s2 (s2 (s2 σ 11 0 (σ 3 0)) 11 1 (σ 3 1)) 11 2 (σ 3 2)) 11 3 (σ 3 3)) 11 4 (σ 3 4)) 12 (va_cpy (σ 4) (σ 12) 0 0 12)) 13 (va_cpy (σ 5) (σ 13) 0 0 12)) 14 (va_cpy (σ 6) (σ 14) 0 0 12)))) (q' := (97, [some (.ref 11), some (.ref 3)], [.int 12, .int 0, .ref 15, .int 0, .ref 7], (sr (sr (sr (s2 (s2 (s2 (s2 (s2 σ 11 0 (σ 3 0)) 11 1 (σ 3 1)) 11 2 (σ 3 2)) 11 3 (σ 3 3)) 11 4 (σ 3 4)) 12 (va_cpy (σ 4) (σ 12) 0 0 12)) 13 (va_cpy (σ 5) (σ 13) 0 0 12)) 14 (va_cpy (σ 6) (σ 14) 0 0 12)))) rfl ?_
  refine PW.copy (q := (100, [some (.ref 11), some (.ref 3)], [], (sr (sr (sr (sr (s2 (s2 (s2 (s2 (s2 σ 11 0 (σ 3 0)) 11 1 (σ 3 1)) 11 2 (σ 3 2)) 11 3 (σ 3 3)) 11 4 (σ 3 4)) 12 (va_cpy (σ 4) (σ 12) 0 0 12)) 13 (va_cpy (σ 5) (σ 13) 0 0 12)) 14 (va_cpy (σ 6) (σ 14) 0 0 12)) 15 (va_cpy (σ 7) (σ 15) 0 0 12)))) (ins_l hw_13 rfl) rfl rfl ?_
  refine PW.runs hw_13 rfl 7 (q := (100, [some (.ref 11), some (.ref 3)], [], (sr (sr (sr (sr (s2 (s2 (s2 (s2 (s2 σ 11 0 (σ 3 0)) 11 1 (σ 3 1)) 11 2 (σ 3 2)) 11 3 (σ 3 3)) 11 4 (σ 3 4)) 12 (va_cpy (σ 4) (σ 12) 0 0 12)) 13 (va_cpy (σ 5) (σ 13) 0 0 12)) 14 (va_cpy (σ 6) (σ 14) 0 0 12)) 15 (va_cpy (σ 7) (σ 15) 0 0 12)))) (q' := (111, [some (.ref 11), some (.ref 3)], [.int 5, .int 0, .ref 16, .int 0, .ref 8], (sr (sr (sr (sr (s2 (s2 (s2 (s2 (s2 σ 11 0 (σ 3 0)) 11 1 (σ 3 1)) 11 2 (σ 3 2)) 11 3 (σ 3 3)) 11 4 (σ 3 4)) 12 (va_cpy (σ 4) (σ 12) 0 0 12)) 13 (va_cpy (σ 5) (σ 13) 0 0 12)) 14 (va_cpy (σ 6) (σ 14) 0 0 12)) 15 (va_cpy (σ 7) (σ 15) 0 0 12)))) rfl ?_
  refine PW.copy (q := (114, [some (.ref 11), some (.ref 3)], [], (sr (sr (sr (sr (sr (s2 (s2 (s2 (s2 (s2 σ 11 0 (σ 3 0)) 11 1 (σ 3 1)) 11 2 (σ 3 2)) 11 3 (σ 3 3)) 11 4 (σ 3 4)) 12 (va_cpy (σ 4) (σ 12) 0 0 12)) 13 (va_cpy (σ 5) (σ 13) 0 0 12)) 14 (va_cpy (σ 6) (σ 14) 0 0 12)) 15 (va_cpy (σ 7) (σ 15) 0 0 12)) 16 (va_cpy (σ 8) (σ 16) 0 0 5)))) (ins_l hw_13 rfl) rfl rfl ?_
  refine PW.runs hw_13 rfl 7 (q := (114, [some (.ref 11), some (.ref 3)], [], (sr (sr (sr (sr (sr (s2 (s2 (s2 (s2 (s2 σ 11 0 (σ 3 0)) 11 1 (σ 3 1)) 11 2 (σ 3 2)) 11 3 (σ 3 3)) 11 4 (σ 3 4)) 12 (va_cpy (σ 4) (σ 12) 0 0 12)) 13 (va_cpy (σ 5) (σ 13) 0 0 12)) 14 (va_cpy (σ 6) (σ 14) 0 0 12)) 15 (va_cpy (σ 7) (σ 15) 0 0 12)) 16 (va_cpy (σ 8) (σ 16) 0 0 5)))) (q' := (125, [some (.ref 11), some (.ref 3)], [.int 5, .int 0, .ref 17, .int 0, .ref 9], (sr (sr (sr (sr (sr (s2 (s2 (s2 (s2 (s2 σ 11 0 (σ 3 0)) 11 1 (σ 3 1)) 11 2 (σ 3 2)) 11 3 (σ 3 3)) 11 4 (σ 3 4)) 12 (va_cpy (σ 4) (σ 12) 0 0 12)) 13 (va_cpy (σ 5) (σ 13) 0 0 12)) 14 (va_cpy (σ 6) (σ 14) 0 0 12)) 15 (va_cpy (σ 7) (σ 15) 0 0 12)) 16 (va_cpy (σ 8) (σ 16) 0 0 5)))) rfl ?_
  refine PW.copy (q := (128, [some (.ref 11), some (.ref 3)], [], (sr (sr (sr (sr (sr (sr (s2 (s2 (s2 (s2 (s2 σ 11 0 (σ 3 0)) 11 1 (σ 3 1)) 11 2 (σ 3 2)) 11 3 (σ 3 3)) 11 4 (σ 3 4)) 12 (va_cpy (σ 4) (σ 12) 0 0 12)) 13 (va_cpy (σ 5) (σ 13) 0 0 12)) 14 (va_cpy (σ 6) (σ 14) 0 0 12)) 15 (va_cpy (σ 7) (σ 15) 0 0 12)) 16 (va_cpy (σ 8) (σ 16) 0 0 5)) 17 (va_cpy (σ 9) (σ 17) 0 0 5)))) (ins_l hw_13 rfl) rfl rfl ?_
  refine PW.runs hw_13 rfl 7 (q := (128, [some (.ref 11), some (.ref 3)], [], (sr (sr (sr (sr (sr (sr (s2 (s2 (s2 (s2 (s2 σ 11 0 (σ 3 0)) 11 1 (σ 3 1)) 11 2 (σ 3 2)) 11 3 (σ 3 3)) 11 4 (σ 3 4)) 12 (va_cpy (σ 4) (σ 12) 0 0 12)) 13 (va_cpy (σ 5) (σ 13) 0 0 12)) 14 (va_cpy (σ 6) (σ 14) 0 0 12)) 15 (va_cpy (σ 7) (σ 15) 0 0 12)) 16 (va_cpy (σ 8) (σ 16) 0 0 5)) 17 (va_cpy (σ 9) (σ 17) 0 0 5)))) (q' := (139, [some (.ref 11), some (.ref 3)], [.int 4, .int 0, .ref 18, .int 0, .ref 10], (sr (sr (sr (sr (sr (sr (s2 (s2 (s2 (s2 (s2 σ 11 0 (σ 3 0)) 11 1 (σ 3 1)) 11 2 (σ 3 2)) 11 3 (σ 3 3)) 11 4 (σ 3 4)) 12 (va_cpy (σ 4) (σ 12) 0 0 12)) 13 (va_cpy (σ 5) (σ 13) 0 0 12)) 14 (va_cpy (σ 6) (σ 14) 0 0 12)) 15 (va_cpy (σ 7) (σ 15) 0 0 12)) 16 (va_cpy (σ 8) (σ 16) 0 0 5)) 17 (va_cpy (σ 9) (σ 17) 0 0 5)))) rfl ?_
  refine PW.copy (q := (142, [some (.ref 11), some (.ref 3)], [], (sr (sr (sr (sr (sr (sr (sr (s2 (s2 (s2 (s2 (s2 σ 11 0 (σ 3 0)) 11 1 (σ 3 1)) 11 2 (σ 3 2)) 11 3 (σ 3 3)) 11 4 (σ 3 4)) 12 (va_cpy (σ 4) (σ 12) 0 0 12)) 13 (va_cpy (σ 5) (σ 13) 0 0 12)) 14 (va_cpy (σ 6) (σ 14) 0 0 12)) 15 (va_cpy (σ 7) (σ 15) 0 0 12)) 16 (va_cpy (σ 8) (σ 16) 0 0 5)) 17 (va_cpy (σ 9) (σ 17) 0 0 5)) 18 (va_cpy (σ 10) (σ 18) 0 0 4)))) (ins_l hw_13 rfl) rfl rfl ?_
  exact PW.vret (ins_l hw_13 rfl) rfl ⟨rfl, h⟩
theorem hw_49 : pins.getD 49 [] = pi_49 := rfl
/-! MapDuty$Standing.begin.(LMapDuty$Plan;)V -/
set_option maxRecDepth 20000 in
theorem w_49  {σ : St} {K : St → Prop} (h : CV 193 [.ref 21, .int 0] (sr (s2 (s2 (s2 (s2 σ 19 0 (σ 11 4)) 19 1 0) 19 2 0) 19 3 0) 20 (va_cpy (σ 17) (σ 20) 0 0 5)) (fun σ1 => K σ1)) : CV 49 [.ref 19, .ref 11] σ K := by
  show PW none 49 0 [some (.ref 19), some (.ref 11)] [] σ _
  refine PW.runs hw_49 rfl 20 (q := (0, [some (.ref 19), some (.ref 11)], [], σ)) (q' := (34, [some (.ref 19), some (.ref 11)], [.int 5, .int 0, .ref 20, .int 0, .ref 17], (s2 (s2 (s2 (s2 σ 19 0 (σ 11 4)) 19 1 0) 19 2 0) 19 3 0))) rfl ?_
  refine PW.copy (q := (37, [some (.ref 19), some (.ref 11)], [], (sr (s2 (s2 (s2 (s2 σ 19 0 (σ 11 4)) 19 1 0) 19 2 0) 19 3 0) 20 (va_cpy (σ 17) (σ 20) 0 0 5)))) (ins_l hw_49 rfl) rfl rfl ?_
  refine PW.runs hw_49 rfl 3 (q := (37, [some (.ref 19), some (.ref 11)], [], (sr (s2 (s2 (s2 (s2 σ 19 0 (σ 11 4)) 19 1 0) 19 2 0) 19 3 0) 20 (va_cpy (σ 17) (σ 20) 0 0 5)))) (q' := (42, [some (.ref 19), some (.ref 11)], [.int 0, .ref 21], (sr (s2 (s2 (s2 (s2 σ 19 0 (σ 11 4)) 19 1 0) 19 2 0) 19 3 0) 20 (va_cpy (σ 17) (σ 20) 0 0 5)))) rfl ?_
  refine PW.callS (vs := [.ref 21, .int 0]) (rest := []) (ins_l hw_49 rfl) rfl (Or.inl rfl) rfl (Nat.le_of_ble_eq_true rfl) (Nat.le_of_ble_eq_true rfl) (PW.mono h ?_)
  rintro _ σ1 ⟨rfl, h⟩
  show PW none 49 45 [some (.ref 19), some (.ref 11)] [] σ1 _
  exact PW.vret (ins_l hw_49 rfl) rfl ⟨rfl, h⟩
theorem hw_0 : pins.getD 0 [] = pi_0 := rfl
/-! MapDuty$Book.empty.()V -/
set_option maxRecDepth 20000 in
theorem w_0  {σ : St} {K : St → Prop} (h : K (s2 (s2 σ 29 0 0) 29 1 0)) : CV 0 [.ref 29] σ K := by
  show PW none 0 0 [some (.ref 29)] [] σ _
  refine PW.runs hw_0 rfl 6 (q := (0, [some (.ref 29)], [], σ)) (q' := (10, [some (.ref 29)], [], (s2 (s2 σ 29 0 0) 29 1 0))) rfl ?_
  exact PW.vret (ins_l hw_0 rfl) rfl ⟨rfl, h⟩
theorem hw_11 : pins.getD 11 [] = pi_11 := rfl
/-! MapDuty$Past.forget.()V -/
set_option maxRecDepth 20000 in
theorem w_11  {σ : St} {K : St → Prop} (h : K (s2 σ 24 2 0)) : CV 11 [.ref 24] σ K := by
  show PW none 11 0 [some (.ref 24)] [] σ _
  refine PW.runs hw_11 rfl 3 (q := (0, [some (.ref 24)], [], σ)) (q' := (5, [some (.ref 24)], [], (s2 σ 24 2 0))) rfl ?_
  exact PW.vret (ins_l hw_11 rfl) rfl ⟨rfl, h⟩
theorem hw_193 : pins.getD 193 [] = pi_193 := rfl
/-! java/util/Arrays.fill.([II)V -/
set_option maxRecDepth 20000 in
theorem w_193_21 {a : Int32} {σ : St} {K : St → Prop} (h : PV 193 5 [some (.ref 21), some (.int a), some (.int 0), some (.int 5)] [] σ K) : CV 193 [.ref 21, .int a] σ K := by
  show PW none 193 0 [some (.ref 21), some (.int a), none, none] [] σ _
  refine PW.runs hw_193 rfl 5 (q := (0, [some (.ref 21), some (.int a), none, none], [], σ)) (q' := (5, [some (.ref 21), some (.int a), some (.int 0), some (.int 5)], [], σ)) rfl ?_
  exact h
set_option maxRecDepth 20000 in
theorem w_193_21_5 {a : Int32} {x2 : Int32} {x3 : Int32} {σ : St} {K : St → Prop} (h : (if x3 ≤ x2 then K σ else ((0 ≤ x2.toInt ∧ x2.toInt < 5) ∧ PV 193 5 [some (.ref 21), some (.int a), some (.int (x2 + 1)), some (.int x3)] [] (s2 σ 21 (Int32.toNatClampNeg x2) a) K))) : PV 193 5 [some (.ref 21), some (.int a), some (.int x2), some (.int x3)] [] σ K := by
  show PW none 193 5 [some (.ref 21), some (.int a), some (.int x2), some (.int x3)] [] σ _
  refine PW.runs hw_193 rfl 2 (q := (5, [some (.ref 21), some (.int a), some (.int x2), some (.int x3)], [], σ)) (q' := (7, [some (.ref 21), some (.int a), some (.int x2), some (.int x3)], [.int x3, .int x2], σ)) rfl ?_
  refine PW.icm (t := 20) (ins_l hw_193 rfl) rfl (fun hc1 => ?_) (fun hc1 => ?_)
  · replace h := (if_pos (c_geT hc1)).mp h
    exact PW.vret (ins_l hw_193 rfl) rfl ⟨rfl, h⟩
  · replace h := (if_neg (c_geF hc1)).mp h
    refine PW.runs hw_193 rfl 3 (q := (10, [some (.ref 21), some (.int a), some (.int x2), some (.int x3)], [], σ)) (q' := (13, [some (.ref 21), some (.int a), some (.int x2), some (.int x3)], [.int a, .int x2, .ref 21], σ)) rfl ?_
    obtain ⟨hb1, h⟩ := h
    refine PW.iast (n := 5) (ins_l hw_193 rfl) rfl (idx_in hb1.1 hb1.2).1 ?_
    refine PW.runs hw_193 rfl 2 (q := (14, [some (.ref 21), some (.int a), some (.int x2), some (.int x3)], [], (s2 σ 21 (Int32.toNatClampNeg x2) a))) (q' := (5, [some (.ref 21), some (.int a), some (.int (x2 + 1)), some (.int x3)], [], (s2 σ 21 (Int32.toNatClampNeg x2) a))) rfl ?_
    exact h
/-! MapDutyModel.takeRead.()V -/
set_option maxRecDepth 20000 in
theorem w_131  {σ : St} {K : St → Prop} (h : CV 130 [.ref 48, .ref 40, .int (σ 39 20)] (s2 (s2 (s2 (s2 (s2 σ 39 0 (σ 39 19)) 39 1 (σ 39 20)) 39 5 (σ 39 24)) 39 6 (σ 39 25)) 39 9 (σ 39 28)) (fun σ1 => CV 130 [.ref 49, .ref 41, .int (σ1 39 1)] σ1 (fun σ2 => CV 130 [.ref 50, .ref 42, .int (σ2 39 1)] σ2 (fun σ3 => CV 130 [.ref 51, .ref 43, .int (σ3 39 6)] σ3 (fun σ4 => CV 130 [.ref 52, .ref 44, .int (σ4 39 6)] σ4 (fun σ5 => CV 130 [.ref 53, .ref 45, .int (σ5 39 9)] σ5 (fun σ6 => PV 131 132 [some (.ref 39), some (.int 0)] [] σ6 K))))))) : CV 131 [.ref 39] σ K := by
  show PW none 131 0 [some (.ref 39), none] [] σ _
  refine PW.runs hw_131 rfl 26 (q := (0, [some (.ref 39), none], [], σ)) (q' := (52, [some (.ref 39), none], [.int (σ 39 20), .ref 40, .ref 48], (s2 (s2 (s2 (s2 (s2 σ 39 0 (σ 39 19)) 39 1 (σ 39 20)) 39 5 (σ 39 24)) 39 6 (σ 39 25)) 39 9 (σ 39 28)))) rfl ?_
  refine PW.callS (vs := [.ref 48, .ref 40, .int (σ 39 20)]) (rest := []) (ins_l hw_131 rfl) rfl (Or.inl rfl) rfl (Nat.le_of_ble_eq_true rfl) (Nat.le_of_ble_eq_true rfl) (PW.mono h ?_)
  rintro _ σ1 ⟨rfl, h⟩
  show PW none 131 55 [some (.ref 39), none] [] σ1 _
  refine PW.runs hw_131 rfl 6 (q := (55, [some (.ref 39), none], [], σ1)) (q' := (67, [some (.ref 39), none], [.int (σ1 39 1), .ref 41, .ref 49], σ1)) rfl ?_
  refine PW.callS (vs := [.ref 49, .ref 41, .int (σ1 39 1)]) (rest := []) (ins_l hw_131 rfl) rfl (Or.inl rfl) rfl (Nat.le_of_ble_eq_true rfl) (Nat.le_of_ble_eq_true rfl) (PW.mono h ?_)
  rintro _ σ2 ⟨rfl, h⟩
  show PW none 131 70 [some (.ref 39), none] [] σ2 _
  refine PW.runs hw_131 rfl 6 (q := (70, [some (.ref 39), none], [], σ2)) (q' := (82, [some (.ref 39), none], [.int (σ2 39 1), .ref 42, .ref 50], σ2)) rfl ?_
  refine PW.callS (vs := [.ref 50, .ref 42, .int (σ2 39 1)]) (rest := []) (ins_l hw_131 rfl) rfl (Or.inl rfl) rfl (Nat.le_of_ble_eq_true rfl) (Nat.le_of_ble_eq_true rfl) (PW.mono h ?_)
  rintro _ σ3 ⟨rfl, h⟩
  show PW none 131 85 [some (.ref 39), none] [] σ3 _
  refine PW.runs hw_131 rfl 6 (q := (85, [some (.ref 39), none], [], σ3)) (q' := (97, [some (.ref 39), none], [.int (σ3 39 6), .ref 43, .ref 51], σ3)) rfl ?_
  refine PW.callS (vs := [.ref 51, .ref 43, .int (σ3 39 6)]) (rest := []) (ins_l hw_131 rfl) rfl (Or.inl rfl) rfl (Nat.le_of_ble_eq_true rfl) (Nat.le_of_ble_eq_true rfl) (PW.mono h ?_)
  rintro _ σ4 ⟨rfl, h⟩
  show PW none 131 100 [some (.ref 39), none] [] σ4 _
  refine PW.runs hw_131 rfl 6 (q := (100, [some (.ref 39), none], [], σ4)) (q' := (112, [some (.ref 39), none], [.int (σ4 39 6), .ref 44, .ref 52], σ4)) rfl ?_
  refine PW.callS (vs := [.ref 52, .ref 44, .int (σ4 39 6)]) (rest := []) (ins_l hw_131 rfl) rfl (Or.inl rfl) rfl (Nat.le_of_ble_eq_true rfl) (Nat.le_of_ble_eq_true rfl) (PW.mono h ?_)
  rintro _ σ5 ⟨rfl, h⟩
  show PW none 131 115 [some (.ref 39), none] [] σ5 _
  refine PW.runs hw_131 rfl 6 (q := (115, [some (.ref 39), none], [], σ5)) (q' := (127, [some (.ref 39), none], [.int (σ5 39 9), .ref 45, .ref 53], σ5)) rfl ?_
  refine PW.callS (vs := [.ref 53, .ref 45, .int (σ5 39 9)]) (rest := []) (ins_l hw_131 rfl) rfl (Or.inl rfl) rfl (Nat.le_of_ble_eq_true rfl) (Nat.le_of_ble_eq_true rfl) (PW.mono h ?_)
  rintro _ σ6 ⟨rfl, h⟩
  show PW none 131 130 [some (.ref 39), none] [] σ6 _
  refine PW.runs hw_131 rfl 2 (q := (130, [some (.ref 39), none], [], σ6)) (q' := (132, [some (.ref 39), some (.int 0)], [], σ6)) rfl ?_
  exact h
set_option maxRecDepth 20000 in
theorem w_131_132 {x1 : Int32} {σ : St} {K : St → Prop} (h : (if 14 ≤ x1 then CV 130 [.ref 44, .ref 46, .int (σ 39 6)] σ (fun σ1 => K (s2 σ1 46 10 (σ1 39 5))) else ((0 ≤ x1.toInt ∧ x1.toInt < 14) ∧ PV 131 132 [some (.ref 39), some (.int (x1 + 1))] [] (s2 σ 46 (Int32.toNatClampNeg x1) 0) K))) : PV 131 132 [some (.ref 39), some (.int x1)] [] σ K := by
  show PW none 131 132 [some (.ref 39), some (.int x1)] [] σ _
  refine PW.runs hw_131 rfl 2 (q := (132, [some (.ref 39), some (.int x1)], [], σ)) (q' := (135, [some (.ref 39), some (.int x1)], [.int 14, .int x1], σ)) rfl ?_
  refine PW.icm (t := 151) (ins_l hw_131 rfl) rfl (fun hc1 => ?_) (fun hc1 => ?_)
  · replace h := (if_pos (c_geT hc1)).mp h
    refine PW.runs hw_131 rfl 6 (q := (151, [some (.ref 39), some (.int x1)], [], σ)) (q' := (163, [some (.ref 39), some (.int x1)], [.int (σ 39 6), .ref 46, .ref 44], σ)) rfl ?_
    refine PW.callS (vs := [.ref 44, .ref 46, .int (σ 39 6)]) (rest := []) (ins_l hw_131 rfl) rfl (Or.inl rfl) rfl (Nat.le_of_ble_eq_true rfl) (Nat.le_of_ble_eq_true rfl) (PW.mono h ?_)
    rintro _ σ1 ⟨rfl, h⟩
    show PW none 131 166 [some (.ref 39), some (.int x1)] [] σ1 _
    refine PW.runs hw_131 rfl 5 (q := (166, [some (.ref 39), some (.int x1)], [], σ1)) (q' := (176, [some (.ref 39), some (.int x1)], [.int (σ1 39 5), .int 10, .ref 46], σ1)) rfl ?_
    refine PW.iast (n := 14) (ins_l hw_131 rfl) rfl (by decide) ?_
    exact PW.vret (ins_l hw_131 rfl) rfl ⟨rfl, h⟩
  · replace h := (if_neg (c_geF hc1)).mp h
    refine PW.runs hw_131 rfl 4 (q := (138, [some (.ref 39), some (.int x1)], [], σ)) (q' := (144, [some (.ref 39), some (.int x1)], [.int 0, .int x1, .ref 46], σ)) rfl ?_
    obtain ⟨hb1, h⟩ := h
    refine PW.iast (n := 14) (ins_l hw_131 rfl) rfl (idx_in hb1.1 hb1.2).1 ?_
    refine PW.runs hw_131 rfl 2 (q := (145, [some (.ref 39), some (.int x1)], [], (s2 σ 46 (Int32.toNatClampNeg x1) 0))) (q' := (132, [some (.ref 39), some (.int (x1 + 1))], [], (s2 σ 46 (Int32.toNatClampNeg x1) 0))) rfl ?_
    exact h
theorem hw_54 : pins.getD 54 [] = pi_54 := rfl
/-! MapDuty.feed.(I)I -/
set_option maxRecDepth 20000 in
theorem w_54 {a : Int32} {σ : St} {K : Int32 → St → Prop} (h : CI 91 [.int a, .int 0, .int 255] σ (fun v1 σ1 => (if v1 = 0 then K (-1000000002) σ1 else CI 22 [.ref 1, .int a] σ1 (fun v2 σ2 => K v2 σ2)))) : CI 54 [.ref 0, .int a] σ K := by
  show PW none 54 0 [some (.ref 0), some (.int a)] [] σ _
  refine PW.runs hw_54 rfl 3 (q := (0, [some (.ref 0), some (.int a)], [], σ)) (q' := (5, [some (.ref 0), some (.int a)], [.int 255, .int 0, .int a], σ)) rfl ?_
  refine PW.callS (vs := [.int a, .int 0, .int 255]) (rest := []) (ins_l hw_54 rfl) rfl (Or.inl rfl) rfl (Nat.le_of_ble_eq_true rfl) (Nat.le_of_ble_eq_true rfl) (PW.mono h ?_)
  rintro _ σ1 ⟨v1, rfl, h⟩
  show PW none 54 8 [some (.ref 0), some (.int a)] [.int v1] σ1 _
  refine PW.ifc (t := 14) (ins_l hw_54 rfl) rfl (fun hc1 => ?_) (fun hc1 => ?_)
  · replace h := (if_neg (c_neT hc1)).mp h
    refine PW.runs hw_54 rfl 3 (q := (14, [some (.ref 0), some (.int a)], [], σ1)) (q' := (19, [some (.ref 0), some (.int a)], [.int a, .ref 1], σ1)) rfl ?_
    refine PW.callV (b := 1) (vs := [.int a]) (rest := []) (ins_l hw_54 rfl) rfl rfl rfl (Nat.le_of_ble_eq_true rfl) (Nat.le_of_ble_eq_true rfl) (PW.mono h ?_)
    rintro _ σ2 ⟨v2, rfl, h⟩
    show PW none 54 22 [some (.ref 0), some (.int a)] [.int v2] σ2 _
    exact PW.iret (ins_l hw_54 rfl) (Or.inl rfl) ⟨_, rfl, h⟩
  · replace h := (if_pos (c_neF hc1)).mp h
    refine PW.runs hw_54 rfl 1 (q := (11, [some (.ref 0), some (.int a)], [], σ1)) (q' := (13, [some (.ref 0), some (.int a)], [.int (-1000000002)], σ1)) rfl ?_
    exact PW.iret (ins_l hw_54 rfl) (Or.inl rfl) ⟨_, rfl, h⟩
theorem hw_22 : pins.getD 22 [] = pi_22 := rfl
/-! MapDuty$Reader.take.(I)I -/
set_option maxRecDepth 20000 in
theorem w_22 {a : Int32} {σ : St} {K : Int32 → St → Prop} (h : (if (σ 1 1) < 240 then ((0 ≤ (σ 1 1).toInt ∧ (σ 1 1).toInt < 240) ∧ K ((σ 1 1) + 1) (s2 (s2 σ 2 (Int32.toNatClampNeg (σ 1 1)) a) 1 1 ((σ 1 1) + 1))) else K (-1000000004) σ)) : CI 22 [.ref 1, .int a] σ K := by
  show PW none 22 0 [some (.ref 1), some (.int a)] [] σ _
  refine PW.runs hw_22 rfl 3 (q := (0, [some (.ref 1), some (.int a)], [], σ)) (q' := (7, [some (.ref 1), some (.int a)], [.int 240, .int (σ 1 1)], σ)) rfl ?_
  refine PW.icm (t := 13) (ins_l hw_22 rfl) rfl (fun hc1 => ?_) (fun hc1 => ?_)
  · replace h := (if_pos (c_ltT hc1)).mp h
    refine PW.runs hw_22 rfl 5 (q := (13, [some (.ref 1), some (.int a)], [], σ)) (q' := (22, [some (.ref 1), some (.int a)], [.int a, .int (σ 1 1), .ref 2], σ)) rfl ?_
    obtain ⟨hb1, h⟩ := h
    refine PW.iast (n := 240) (ins_l hw_22 rfl) rfl (idx_in hb1.1 hb1.2).1 ?_
    refine PW.runs hw_22 rfl 8 (q := (23, [some (.ref 1), some (.int a)], [], (s2 σ 2 (Int32.toNatClampNeg (σ 1 1)) a))) (q' := (37, [some (.ref 1), some (.int a)], [.int ((σ 1 1) + 1)], (s2 (s2 σ 2 (Int32.toNatClampNeg (σ 1 1)) a) 1 1 ((σ 1 1) + 1)))) rfl ?_
    exact PW.iret (ins_l hw_22 rfl) (Or.inl rfl) ⟨_, rfl, h⟩
  · replace h := (if_neg (c_ltF hc1)).mp h
    refine PW.runs hw_22 rfl 1 (q := (10, [some (.ref 1), some (.int a)], [], σ)) (q' := (12, [some (.ref 1), some (.int a)], [.int (-1000000004)], σ)) rfl ?_
    exact PW.iret (ins_l hw_22 rfl) (Or.inl rfl) ⟨_, rfl, h⟩
theorem hw_117 : pins.getD 117 [] = pi_117 := rfl
/-! MapDutyModel.feed.(I)I -/
set_option maxRecDepth 20000 in
theorem w_117 {a : Int32} {σ : St} {K : Int32 → St → Prop} (h : CI 109 [.long (Int32.toInt64 a), .long 0, .long 255] σ (fun v1 σ1 => (if v1 = 0 then K (-1000000002) σ1 else (if (σ1 39 14) = 240 then K (-1000000004) σ1 else ((0 ≤ (σ1 39 14).toInt ∧ (σ1 39 14).toInt < 240) ∧ K ((σ1 39 14) + 1) (s2 (s2 σ1 47 (Int32.toNatClampNeg (σ1 39 14)) a) 39 14 ((σ1 39 14) + 1))))))) : CI 117 [.ref 39, .int a] σ K := by
  show PW none 117 0 [some (.ref 39), some (.int a)] [] σ _
  refine PW.runs hw_117 rfl 4 (q := (0, [some (.ref 39), some (.int a)], [], σ)) (q' := (6, [some (.ref 39), some (.int a)], [.long 255, .long 0, .long (Int32.toInt64 a)], σ)) rfl ?_
  refine PW.callS (vs := [.long (Int32.toInt64 a), .long 0, .long 255]) (rest := []) (ins_l hw_117 rfl) rfl (Or.inl rfl) rfl (Nat.le_of_ble_eq_true rfl) (Nat.le_of_ble_eq_true rfl) (PW.mono h ?_)
  rintro _ σ1 ⟨v1, rfl, h⟩
  show PW none 117 9 [some (.ref 39), some (.int a)] [.int v1] σ1 _
  refine PW.ifc (t := 15) (ins_l hw_117 rfl) rfl (fun hc1 => ?_) (fun hc1 => ?_)
  · replace h := (if_neg (c_neT hc1)).mp h
    refine PW.runs hw_117 rfl 3 (q := (15, [some (.ref 39), some (.int a)], [], σ1)) (q' := (22, [some (.ref 39), some (.int a)], [.int 240, .int (σ1 39 14)], σ1)) rfl ?_
    refine PW.icm (t := 28) (ins_l hw_117 rfl) rfl (fun hc2 => ?_) (fun hc2 => ?_)
    · replace h := (if_neg (c_neT hc2)).mp h
      refine PW.runs hw_117 rfl 5 (q := (28, [some (.ref 39), some (.int a)], [], σ1)) (q' := (37, [some (.ref 39), some (.int a)], [.int a, .int (σ1 39 14), .ref 47], σ1)) rfl ?_
      obtain ⟨hb1, h⟩ := h
      refine PW.iast (n := 240) (ins_l hw_117 rfl) rfl (idx_in hb1.1 hb1.2).1 ?_
      refine PW.runs hw_117 rfl 8 (q := (38, [some (.ref 39), some (.int a)], [], (s2 σ1 47 (Int32.toNatClampNeg (σ1 39 14)) a))) (q' := (52, [some (.ref 39), some (.int a)], [.int ((σ1 39 14) + 1)], (s2 (s2 σ1 47 (Int32.toNatClampNeg (σ1 39 14)) a) 39 14 ((σ1 39 14) + 1)))) rfl ?_
      exact PW.iret (ins_l hw_117 rfl) (Or.inl rfl) ⟨_, rfl, h⟩
    · replace h := (if_pos (c_neF hc2)).mp h
      refine PW.runs hw_117 rfl 1 (q := (25, [some (.ref 39), some (.int a)], [], σ1)) (q' := (27, [some (.ref 39), some (.int a)], [.int (-1000000004)], σ1)) rfl ?_
      exact PW.iret (ins_l hw_117 rfl) (Or.inl rfl) ⟨_, rfl, h⟩
  · replace h := (if_pos (c_neF hc1)).mp h
    refine PW.runs hw_117 rfl 1 (q := (12, [some (.ref 39), some (.int a)], [], σ1)) (q' := (14, [some (.ref 39), some (.int a)], [.int (-1000000002)], σ1)) rfl ?_
    exact PW.iret (ins_l hw_117 rfl) (Or.inl rfl) ⟨_, rfl, h⟩
theorem hw_56 : pins.getD 56 [] = pi_56 := rfl
/-! MapDuty.fault.()I -/
set_option maxRecDepth 20000 in
theorem w_56  {σ : St} {K : Int32 → St → Prop} (h : K (σ 0 10) σ) : CI 56 [.ref 0] σ K := by
  show PW none 56 0 [some (.ref 0)] [] σ _
  refine PW.runs hw_56 rfl 2 (q := (0, [some (.ref 0)], [], σ)) (q' := (4, [some (.ref 0)], [.int (σ 0 10)], σ)) rfl ?_
  exact PW.iret (ins_l hw_56 rfl) (Or.inl rfl) ⟨_, rfl, h⟩
theorem hw_133 : pins.getD 133 [] = pi_133 := rfl
/-! MapDutyModel.fault.()I -/
set_option maxRecDepth 20000 in
theorem w_133  {σ : St} {K : Int32 → St → Prop} (h : K (σ 39 15) σ) : CI 133 [.ref 39] σ K := by
  show PW none 133 0 [some (.ref 39)] [] σ _
  refine PW.runs hw_133 rfl 2 (q := (0, [some (.ref 39)], [], σ)) (q' := (4, [some (.ref 39)], [.int (σ 39 15)], σ)) rfl ?_
  exact PW.iret (ins_l hw_133 rfl) (Or.inl rfl) ⟨_, rfl, h⟩
theorem hw_77 : pins.getD 77 [] = pi_77 := rfl
/-! MapDuty.journey.(II)I -/
set_option maxRecDepth 20000 in
theorem w_77 {a : Int32} {b : Int32} {σ : St} {K : Int32 → St → Prop} (h : CI 89 [.ref 0, .int a, .int b] σ (fun v1 σ1 => (if v1 = 0 then K (-1000000001) σ1 else CI 1 [.ref 29, .int a, .int b] σ1 (fun v2 σ2 => K v2 σ2)))) : CI 77 [.ref 0, .int a, .int b] σ K := by
  show PW none 77 0 [some (.ref 0), some (.int a), some (.int b)] [] σ _
  refine PW.runs hw_77 rfl 3 (q := (0, [some (.ref 0), some (.int a), some (.int b)], [], σ)) (q' := (3, [some (.ref 0), some (.int a), some (.int b)], [.int b, .int a, .ref 0], σ)) rfl ?_
  refine PW.callV (b := 0) (vs := [.int a, .int b]) (rest := []) (ins_l hw_77 rfl) rfl rfl rfl (Nat.le_of_ble_eq_true rfl) (Nat.le_of_ble_eq_true rfl) (PW.mono h ?_)
  rintro _ σ1 ⟨v1, rfl, h⟩
  show PW none 77 6 [some (.ref 0), some (.int a), some (.int b)] [.int v1] σ1 _
  refine PW.ifc (t := 12) (ins_l hw_77 rfl) rfl (fun hc1 => ?_) (fun hc1 => ?_)
  · replace h := (if_neg (c_neT hc1)).mp h
    refine PW.runs hw_77 rfl 4 (q := (12, [some (.ref 0), some (.int a), some (.int b)], [], σ1)) (q' := (18, [some (.ref 0), some (.int a), some (.int b)], [.int b, .int a, .ref 29], σ1)) rfl ?_
    refine PW.callV (b := 29) (vs := [.int a, .int b]) (rest := []) (ins_l hw_77 rfl) rfl rfl rfl (Nat.le_of_ble_eq_true rfl) (Nat.le_of_ble_eq_true rfl) (PW.mono h ?_)
    rintro _ σ2 ⟨v2, rfl, h⟩
    show PW none 77 21 [some (.ref 0), some (.int a), some (.int b)] [.int v2] σ2 _
    exact PW.iret (ins_l hw_77 rfl) (Or.inl rfl) ⟨_, rfl, h⟩
  · replace h := (if_pos (c_neF hc1)).mp h
    refine PW.runs hw_77 rfl 1 (q := (9, [some (.ref 0), some (.int a), some (.int b)], [], σ1)) (q' := (11, [some (.ref 0), some (.int a), some (.int b)], [.int (-1000000001)], σ1)) rfl ?_
    exact PW.iret (ins_l hw_77 rfl) (Or.inl rfl) ⟨_, rfl, h⟩
theorem hw_89 : pins.getD 89 [] = pi_89 := rfl
/-! MapDuty.areTwoPlaces.(II)Z -/
set_option maxRecDepth 20000 in
theorem w_89 {a : Int32} {b : Int32} {σ : St} {K : Int32 → St → Prop} (h : CI 84 [.ref 0, .int a] σ (fun v1 σ1 => (if v1 = 0 then K 0 σ1 else CI 84 [.ref 0, .int b] σ1 (fun v2 σ2 => (if v2 = 0 then K 0 σ2 else (if a = b then K 0 σ2 else K 1 σ2)))))) : CI 89 [.ref 0, .int a, .int b] σ K := by
  show PW none 89 0 [some (.ref 0), some (.int a), some (.int b)] [] σ _
  refine PW.runs hw_89 rfl 2 (q := (0, [some (.ref 0), some (.int a), some (.int b)], [], σ)) (q' := (2, [some (.ref 0), some (.int a), some (.int b)], [.int a, .ref 0], σ)) rfl ?_
  refine PW.callV (b := 0) (vs := [.int a]) (rest := []) (ins_l hw_89 rfl) rfl rfl rfl (Nat.le_of_ble_eq_true rfl) (Nat.le_of_ble_eq_true rfl) (PW.mono h ?_)
  rintro _ σ1 ⟨v1, rfl, h⟩
  show PW none 89 5 [some (.ref 0), some (.int a), some (.int b)] [.int v1] σ1 _
  refine PW.ifc (t := 25) (ins_l hw_89 rfl) rfl (fun hc1 => ?_) (fun hc1 => ?_)
  · replace h := (if_pos (c_eqT hc1)).mp h
    refine PW.runs hw_89 rfl 1 (q := (25, [some (.ref 0), some (.int a), some (.int b)], [], σ1)) (q' := (26, [some (.ref 0), some (.int a), some (.int b)], [.int 0], σ1)) rfl ?_
    exact PW.iret (ins_l hw_89 rfl) (Or.inr ⟨rfl, by decide⟩) ⟨_, rfl, h⟩
  · replace h := (if_neg (c_eqF hc1)).mp h
    refine PW.runs hw_89 rfl 2 (q := (8, [some (.ref 0), some (.int a), some (.int b)], [], σ1)) (q' := (10, [some (.ref 0), some (.int a), some (.int b)], [.int b, .ref 0], σ1)) rfl ?_
    refine PW.callV (b := 0) (vs := [.int b]) (rest := []) (ins_l hw_89 rfl) rfl rfl rfl (Nat.le_of_ble_eq_true rfl) (Nat.le_of_ble_eq_true rfl) (PW.mono h ?_)
    rintro _ σ2 ⟨v2, rfl, h⟩
    show PW none 89 13 [some (.ref 0), some (.int a), some (.int b)] [.int v2] σ2 _
    refine PW.ifc (t := 25) (ins_l hw_89 rfl) rfl (fun hc2 => ?_) (fun hc2 => ?_)
    · replace h := (if_pos (c_eqT hc2)).mp h
      refine PW.runs hw_89 rfl 1 (q := (25, [some (.ref 0), some (.int a), some (.int b)], [], σ2)) (q' := (26, [some (.ref 0), some (.int a), some (.int b)], [.int 0], σ2)) rfl ?_
      exact PW.iret (ins_l hw_89 rfl) (Or.inr ⟨rfl, by decide⟩) ⟨_, rfl, h⟩
    · replace h := (if_neg (c_eqF hc2)).mp h
      refine PW.runs hw_89 rfl 2 (q := (16, [some (.ref 0), some (.int a), some (.int b)], [], σ2)) (q' := (18, [some (.ref 0), some (.int a), some (.int b)], [.int b, .int a], σ2)) rfl ?_
      refine PW.icm (t := 25) (ins_l hw_89 rfl) rfl (fun hc3 => ?_) (fun hc3 => ?_)
      · replace h := (if_pos (c_eqT hc3)).mp h
        refine PW.runs hw_89 rfl 1 (q := (25, [some (.ref 0), some (.int a), some (.int b)], [], σ2)) (q' := (26, [some (.ref 0), some (.int a), some (.int b)], [.int 0], σ2)) rfl ?_
        exact PW.iret (ins_l hw_89 rfl) (Or.inr ⟨rfl, by decide⟩) ⟨_, rfl, h⟩
      · replace h := (if_neg (c_eqF hc3)).mp h
        refine PW.runs hw_89 rfl 2 (q := (21, [some (.ref 0), some (.int a), some (.int b)], [], σ2)) (q' := (26, [some (.ref 0), some (.int a), some (.int b)], [.int 1], σ2)) rfl ?_
        exact PW.iret (ins_l hw_89 rfl) (Or.inr ⟨rfl, by decide⟩) ⟨_, rfl, h⟩
theorem hw_84 : pins.getD 84 [] = pi_84 := rfl
/-! MapDuty.isPlace.(I)Z -/
set_option maxRecDepth 20000 in
theorem w_84 {a : Int32} {σ : St} {K : Int32 → St → Prop} (h : (if a < 0 then K 0 σ else (if (σ 11 0) ≤ a then K 0 σ else (if 8 ≤ a then K 0 σ else K 1 σ)))) : CI 84 [.ref 0, .int a] σ K := by
  show PW none 84 0 [some (.ref 0), some (.int a)] [] σ _
  refine PW.runs hw_84 rfl 1 (q := (0, [some (.ref 0), some (.int a)], [], σ)) (q' := (1, [some (.ref 0), some (.int a)], [.int a], σ)) rfl ?_
  refine PW.ifc (t := 25) (ins_l hw_84 rfl) rfl (fun hc1 => ?_) (fun hc1 => ?_)
  · replace h := (if_pos (c_ltT hc1)).mp h
    refine PW.runs hw_84 rfl 1 (q := (25, [some (.ref 0), some (.int a)], [], σ)) (q' := (26, [some (.ref 0), some (.int a)], [.int 0], σ)) rfl ?_
    exact PW.iret (ins_l hw_84 rfl) (Or.inr ⟨rfl, by decide⟩) ⟨_, rfl, h⟩
  · replace h := (if_neg (c_ltF hc1)).mp h
    refine PW.runs hw_84 rfl 4 (q := (4, [some (.ref 0), some (.int a)], [], σ)) (q' := (12, [some (.ref 0), some (.int a)], [.int (σ 11 0), .int a], σ)) rfl ?_
    refine PW.icm (t := 25) (ins_l hw_84 rfl) rfl (fun hc2 => ?_) (fun hc2 => ?_)
    · replace h := (if_pos (c_geT hc2)).mp h
      refine PW.runs hw_84 rfl 1 (q := (25, [some (.ref 0), some (.int a)], [], σ)) (q' := (26, [some (.ref 0), some (.int a)], [.int 0], σ)) rfl ?_
      exact PW.iret (ins_l hw_84 rfl) (Or.inr ⟨rfl, by decide⟩) ⟨_, rfl, h⟩
    · replace h := (if_neg (c_geF hc2)).mp h
      refine PW.runs hw_84 rfl 2 (q := (15, [some (.ref 0), some (.int a)], [], σ)) (q' := (18, [some (.ref 0), some (.int a)], [.int 8, .int a], σ)) rfl ?_
      refine PW.icm (t := 25) (ins_l hw_84 rfl) rfl (fun hc3 => ?_) (fun hc3 => ?_)
      · replace h := (if_pos (c_geT hc3)).mp h
        refine PW.runs hw_84 rfl 1 (q := (25, [some (.ref 0), some (.int a)], [], σ)) (q' := (26, [some (.ref 0), some (.int a)], [.int 0], σ)) rfl ?_
        exact PW.iret (ins_l hw_84 rfl) (Or.inr ⟨rfl, by decide⟩) ⟨_, rfl, h⟩
      · replace h := (if_neg (c_geF hc3)).mp h
        refine PW.runs hw_84 rfl 2 (q := (21, [some (.ref 0), some (.int a)], [], σ)) (q' := (26, [some (.ref 0), some (.int a)], [.int 1], σ)) rfl ?_
        exact PW.iret (ins_l hw_84 rfl) (Or.inr ⟨rfl, by decide⟩) ⟨_, rfl, h⟩
theorem hw_86 : pins.getD 86 [] = pi_86 := rfl
/-! MapDuty.isMap.(I)Z -/
set_option maxRecDepth 20000 in
theorem w_86 {a : Int32} {σ : St} {K : Int32 → St → Prop} (h : (if a < 0 then K 0 σ else (if (σ 11 2) ≤ a then K 0 σ else (if 5 ≤ a then K 0 σ else K 1 σ)))) : CI 86 [.ref 0, .int a] σ K := by
  show PW none 86 0 [some (.ref 0), some (.int a)] [] σ _
  refine PW.runs hw_86 rfl 1 (q := (0, [some (.ref 0), some (.int a)], [], σ)) (q' := (1, [some (.ref 0), some (.int a)], [.int a], σ)) rfl ?_
  refine PW.ifc (t := 24) (ins_l hw_86 rfl) rfl (fun hc1 => ?_) (fun hc1 => ?_)
  · replace h := (if_pos (c_ltT hc1)).mp h
    refine PW.runs hw_86 rfl 1 (q := (24, [some (.ref 0), some (.int a)], [], σ)) (q' := (25, [some (.ref 0), some (.int a)], [.int 0], σ)) rfl ?_
    exact PW.iret (ins_l hw_86 rfl) (Or.inr ⟨rfl, by decide⟩) ⟨_, rfl, h⟩
  · replace h := (if_neg (c_ltF hc1)).mp h
    refine PW.runs hw_86 rfl 4 (q := (4, [some (.ref 0), some (.int a)], [], σ)) (q' := (12, [some (.ref 0), some (.int a)], [.int (σ 11 2), .int a], σ)) rfl ?_
    refine PW.icm (t := 24) (ins_l hw_86 rfl) rfl (fun hc2 => ?_) (fun hc2 => ?_)
    · replace h := (if_pos (c_geT hc2)).mp h
      refine PW.runs hw_86 rfl 1 (q := (24, [some (.ref 0), some (.int a)], [], σ)) (q' := (25, [some (.ref 0), some (.int a)], [.int 0], σ)) rfl ?_
      exact PW.iret (ins_l hw_86 rfl) (Or.inr ⟨rfl, by decide⟩) ⟨_, rfl, h⟩
    · replace h := (if_neg (c_geF hc2)).mp h
      refine PW.runs hw_86 rfl 2 (q := (15, [some (.ref 0), some (.int a)], [], σ)) (q' := (17, [some (.ref 0), some (.int a)], [.int 5, .int a], σ)) rfl ?_
      refine PW.icm (t := 24) (ins_l hw_86 rfl) rfl (fun hc3 => ?_) (fun hc3 => ?_)
      · replace h := (if_pos (c_geT hc3)).mp h
        refine PW.runs hw_86 rfl 1 (q := (24, [some (.ref 0), some (.int a)], [], σ)) (q' := (25, [some (.ref 0), some (.int a)], [.int 0], σ)) rfl ?_
        exact PW.iret (ins_l hw_86 rfl) (Or.inr ⟨rfl, by decide⟩) ⟨_, rfl, h⟩
      · replace h := (if_neg (c_geF hc3)).mp h
        refine PW.runs hw_86 rfl 2 (q := (20, [some (.ref 0), some (.int a)], [], σ)) (q' := (25, [some (.ref 0), some (.int a)], [.int 1], σ)) rfl ?_
        exact PW.iret (ins_l hw_86 rfl) (Or.inr ⟨rfl, by decide⟩) ⟨_, rfl, h⟩
theorem hw_1 : pins.getD 1 [] = pi_1 := rfl
/-! MapDuty$Book.tell.(II)I -/
set_option maxRecDepth 20000 in
theorem w_1 {a : Int32} {b : Int32} {σ : St} {K : Int32 → St → Prop} (h : (if (σ 29 0) < 4 then ((0 ≤ (σ 29 0).toInt ∧ (σ 29 0).toInt < 4) ∧ K ((σ 29 0) + 1) (s2 (s2 (s2 σ 30 (Int32.toNatClampNeg (σ 29 0)) a) 31 (Int32.toNatClampNeg (σ 29 0)) b) 29 0 ((σ 29 0) + 1))) else K (-1000000004) σ)) : CI 1 [.ref 29, .int a, .int b] σ K := by
  show PW none 1 0 [some (.ref 29), some (.int a), some (.int b)] [] σ _
  refine PW.runs hw_1 rfl 3 (q := (0, [some (.ref 29), some (.int a), some (.int b)], [], σ)) (q' := (5, [some (.ref 29), some (.int a), some (.int b)], [.int 4, .int (σ 29 0)], σ)) rfl ?_
  refine PW.icm (t := 11) (ins_l hw_1 rfl) rfl (fun hc1 => ?_) (fun hc1 => ?_)
  · replace h := (if_pos (c_ltT hc1)).mp h
    refine PW.runs hw_1 rfl 5 (q := (11, [some (.ref 29), some (.int a), some (.int b)], [], σ)) (q' := (20, [some (.ref 29), some (.int a), some (.int b)], [.int a, .int (σ 29 0), .ref 30], σ)) rfl ?_
    obtain ⟨hb1, h⟩ := h
    refine PW.iast (n := 4) (ins_l hw_1 rfl) rfl (idx_in hb1.1 hb1.2).1 ?_
    refine PW.runs hw_1 rfl 5 (q := (21, [some (.ref 29), some (.int a), some (.int b)], [], (s2 σ 30 (Int32.toNatClampNeg (σ 29 0)) a))) (q' := (30, [some (.ref 29), some (.int a), some (.int b)], [.int b, .int (σ 29 0), .ref 31], (s2 σ 30 (Int32.toNatClampNeg (σ 29 0)) a))) rfl ?_
    refine PW.iast (n := 4) (ins_l hw_1 rfl) rfl (idx_in hb1.1 hb1.2).1 ?_
    refine PW.runs hw_1 rfl 8 (q := (31, [some (.ref 29), some (.int a), some (.int b)], [], (s2 (s2 σ 30 (Int32.toNatClampNeg (σ 29 0)) a) 31 (Int32.toNatClampNeg (σ 29 0)) b))) (q' := (45, [some (.ref 29), some (.int a), some (.int b)], [.int ((σ 29 0) + 1)], (s2 (s2 (s2 σ 30 (Int32.toNatClampNeg (σ 29 0)) a) 31 (Int32.toNatClampNeg (σ 29 0)) b) 29 0 ((σ 29 0) + 1)))) rfl ?_
    exact PW.iret (ins_l hw_1 rfl) (Or.inl rfl) ⟨_, rfl, h⟩
  · replace h := (if_neg (c_ltF hc1)).mp h
    refine PW.runs hw_1 rfl 1 (q := (8, [some (.ref 29), some (.int a), some (.int b)], [], σ)) (q' := (10, [some (.ref 29), some (.int a), some (.int b)], [.int (-1000000004)], σ)) rfl ?_
    exact PW.iret (ins_l hw_1 rfl) (Or.inl rfl) ⟨_, rfl, h⟩
theorem hw_2 : pins.getD 2 [] = pi_2 := rfl
/-! MapDuty$Book.enter.(II)I -/
set_option maxRecDepth 20000 in
theorem w_2 {a : Int32} {b : Int32} {σ : St} {K : Int32 → St → Prop} (h : (if (σ 29 1) < 15 then ((0 ≤ (σ 29 1).toInt ∧ (σ 29 1).toInt < 15) ∧ K ((σ 29 1) + 1) (s2 (s2 (s2 σ 32 (Int32.toNatClampNeg (σ 29 1)) a) 33 (Int32.toNatClampNeg (σ 29 1)) b) 29 1 ((σ 29 1) + 1))) else K (-1000000004) σ)) : CI 2 [.ref 29, .int a, .int b] σ K := by
  show PW none 2 0 [some (.ref 29), some (.int a), some (.int b)] [] σ _
  refine PW.runs hw_2 rfl 3 (q := (0, [some (.ref 29), some (.int a), some (.int b)], [], σ)) (q' := (6, [some (.ref 29), some (.int a), some (.int b)], [.int 15, .int (σ 29 1)], σ)) rfl ?_
  refine PW.icm (t := 12) (ins_l hw_2 rfl) rfl (fun hc1 => ?_) (fun hc1 => ?_)
  · replace h := (if_pos (c_ltT hc1)).mp h
    refine PW.runs hw_2 rfl 5 (q := (12, [some (.ref 29), some (.int a), some (.int b)], [], σ)) (q' := (21, [some (.ref 29), some (.int a), some (.int b)], [.int a, .int (σ 29 1), .ref 32], σ)) rfl ?_
    obtain ⟨hb1, h⟩ := h
    refine PW.iast (n := 15) (ins_l hw_2 rfl) rfl (idx_in hb1.1 hb1.2).1 ?_
    refine PW.runs hw_2 rfl 5 (q := (22, [some (.ref 29), some (.int a), some (.int b)], [], (s2 σ 32 (Int32.toNatClampNeg (σ 29 1)) a))) (q' := (31, [some (.ref 29), some (.int a), some (.int b)], [.int b, .int (σ 29 1), .ref 33], (s2 σ 32 (Int32.toNatClampNeg (σ 29 1)) a))) rfl ?_
    refine PW.iast (n := 15) (ins_l hw_2 rfl) rfl (idx_in hb1.1 hb1.2).1 ?_
    refine PW.runs hw_2 rfl 8 (q := (32, [some (.ref 29), some (.int a), some (.int b)], [], (s2 (s2 σ 32 (Int32.toNatClampNeg (σ 29 1)) a) 33 (Int32.toNatClampNeg (σ 29 1)) b))) (q' := (46, [some (.ref 29), some (.int a), some (.int b)], [.int ((σ 29 1) + 1)], (s2 (s2 (s2 σ 32 (Int32.toNatClampNeg (σ 29 1)) a) 33 (Int32.toNatClampNeg (σ 29 1)) b) 29 1 ((σ 29 1) + 1)))) rfl ?_
    exact PW.iret (ins_l hw_2 rfl) (Or.inl rfl) ⟨_, rfl, h⟩
  · replace h := (if_neg (c_ltF hc1)).mp h
    refine PW.runs hw_2 rfl 1 (q := (9, [some (.ref 29), some (.int a), some (.int b)], [], σ)) (q' := (11, [some (.ref 29), some (.int a), some (.int b)], [.int (-1000000004)], σ)) rfl ?_
    exact PW.iret (ins_l hw_2 rfl) (Or.inl rfl) ⟨_, rfl, h⟩
theorem hw_78 : pins.getD 78 [] = pi_78 := rfl
/-! MapDuty.write.(II)I -/
set_option maxRecDepth 20000 in
theorem w_78 {a : Int32} {b : Int32} {σ : St} {K : Int32 → St → Prop} (h : CI 86 [.ref 0, .int a] σ (fun v1 σ1 => (if v1 = 0 then K (-1000000001) σ1 else CI 91 [.int b, .int 0, .int 99999] σ1 (fun v2 σ2 => (if v2 = 0 then K (-1000000002) σ2 else CI 2 [.ref 29, .int a, .int b] σ2 (fun v3 σ3 => K v3 σ3)))))) : CI 78 [.ref 0, .int a, .int b] σ K := by
  show PW none 78 0 [some (.ref 0), some (.int a), some (.int b)] [] σ _
  refine PW.runs hw_78 rfl 2 (q := (0, [some (.ref 0), some (.int a), some (.int b)], [], σ)) (q' := (2, [some (.ref 0), some (.int a), some (.int b)], [.int a, .ref 0], σ)) rfl ?_
  refine PW.callV (b := 0) (vs := [.int a]) (rest := []) (ins_l hw_78 rfl) rfl rfl rfl (Nat.le_of_ble_eq_true rfl) (Nat.le_of_ble_eq_true rfl) (PW.mono h ?_)
  rintro _ σ1 ⟨v1, rfl, h⟩
  show PW none 78 5 [some (.ref 0), some (.int a), some (.int b)] [.int v1] σ1 _
  refine PW.ifc (t := 11) (ins_l hw_78 rfl) rfl (fun hc1 => ?_) (fun hc1 => ?_)
  · replace h := (if_neg (c_neT hc1)).mp h
    refine PW.runs hw_78 rfl 3 (q := (11, [some (.ref 0), some (.int a), some (.int b)], [], σ1)) (q' := (16, [some (.ref 0), some (.int a), some (.int b)], [.int 99999, .int 0, .int b], σ1)) rfl ?_
    refine PW.callS (vs := [.int b, .int 0, .int 99999]) (rest := []) (ins_l hw_78 rfl) rfl (Or.inl rfl) rfl (Nat.le_of_ble_eq_true rfl) (Nat.le_of_ble_eq_true rfl) (PW.mono h ?_)
    rintro _ σ2 ⟨v2, rfl, h⟩
    show PW none 78 19 [some (.ref 0), some (.int a), some (.int b)] [.int v2] σ2 _
    refine PW.ifc (t := 25) (ins_l hw_78 rfl) rfl (fun hc2 => ?_) (fun hc2 => ?_)
    · replace h := (if_neg (c_neT hc2)).mp h
      refine PW.runs hw_78 rfl 4 (q := (25, [some (.ref 0), some (.int a), some (.int b)], [], σ2)) (q' := (31, [some (.ref 0), some (.int a), some (.int b)], [.int b, .int a, .ref 29], σ2)) rfl ?_
      refine PW.callV (b := 29) (vs := [.int a, .int b]) (rest := []) (ins_l hw_78 rfl) rfl rfl rfl (Nat.le_of_ble_eq_true rfl) (Nat.le_of_ble_eq_true rfl) (PW.mono h ?_)
      rintro _ σ3 ⟨v3, rfl, h⟩
      show PW none 78 34 [some (.ref 0), some (.int a), some (.int b)] [.int v3] σ3 _
      exact PW.iret (ins_l hw_78 rfl) (Or.inl rfl) ⟨_, rfl, h⟩
    · replace h := (if_pos (c_neF hc2)).mp h
      refine PW.runs hw_78 rfl 1 (q := (22, [some (.ref 0), some (.int a), some (.int b)], [], σ2)) (q' := (24, [some (.ref 0), some (.int a), some (.int b)], [.int (-1000000002)], σ2)) rfl ?_
      exact PW.iret (ins_l hw_78 rfl) (Or.inl rfl) ⟨_, rfl, h⟩
  · replace h := (if_pos (c_neF hc1)).mp h
    refine PW.runs hw_78 rfl 1 (q := (8, [some (.ref 0), some (.int a), some (.int b)], [], σ1)) (q' := (10, [some (.ref 0), some (.int a), some (.int b)], [.int (-1000000001)], σ1)) rfl ?_
    exact PW.iret (ins_l hw_78 rfl) (Or.inl rfl) ⟨_, rfl, h⟩
theorem hw_79 : pins.getD 79 [] = pi_79 := rfl
/-! MapDuty.tear.()I -/
set_option maxRecDepth 20000 in
theorem w_79  {σ : St} {K : Int32 → St → Prop} (h : CV 0 [.ref 29] σ (fun σ1 => K ((σ 29 0) + (σ 29 1)) σ1)) : CI 79 [.ref 0] σ K := by
  show PW none 79 0 [some (.ref 0), none] [] σ _
  refine PW.runs hw_79 rfl 10 (q := (0, [some (.ref 0), none], [], σ)) (q' := (20, [some (.ref 0), some (.int ((σ 29 0) + (σ 29 1)))], [.ref 29], σ)) rfl ?_
  refine PW.callV (b := 29) (vs := []) (rest := []) (ins_l hw_79 rfl) rfl rfl rfl (Nat.le_of_ble_eq_true rfl) (Nat.le_of_ble_eq_true rfl) (PW.mono h ?_)
  rintro _ σ1 ⟨rfl, h⟩
  show PW none 79 23 [some (.ref 0), some (.int ((σ 29 0) + (σ 29 1)))] [] σ1 _
  refine PW.runs hw_79 rfl 1 (q := (23, [some (.ref 0), some (.int ((σ 29 0) + (σ 29 1)))], [], σ1)) (q' := (24, [some (.ref 0), some (.int ((σ 29 0) + (σ 29 1)))], [.int ((σ 29 0) + (σ 29 1))], σ1)) rfl ?_
  exact PW.iret (ins_l hw_79 rfl) (Or.inl rfl) ⟨_, rfl, h⟩
theorem hw_184 : pins.getD 184 [] = pi_184 := rfl
/-! MapDutyModel.journey.(II)I -/
set_option maxRecDepth 20000 in
theorem w_184 {a : Int32} {b : Int32} {σ : St} {K : Int32 → St → Prop} (h : CI 113 [.ref 39, .int a, .int b] σ (fun v1 σ1 => (if v1 = 0 then K (-1000000001) σ1 else (if (σ1 39 34) = 4 then K (-1000000004) σ1 else ((0 ≤ (σ1 39 34).toInt ∧ (σ1 39 34).toInt < 4) ∧ K ((σ1 39 34) + 1) (s2 (s2 (s2 σ1 57 (Int32.toNatClampNeg (σ1 39 34)) a) 58 (Int32.toNatClampNeg (σ1 39 34)) b) 39 34 ((σ1 39 34) + 1))))))) : CI 184 [.ref 39, .int a, .int b] σ K := by
  show PW none 184 0 [some (.ref 39), some (.int a), some (.int b)] [] σ _
  refine PW.runs hw_184 rfl 3 (q := (0, [some (.ref 39), some (.int a), some (.int b)], [], σ)) (q' := (3, [some (.ref 39), some (.int a), some (.int b)], [.int b, .int a, .ref 39], σ)) rfl ?_
  refine PW.callV (b := 39) (vs := [.int a, .int b]) (rest := []) (ins_l hw_184 rfl) rfl rfl rfl (Nat.le_of_ble_eq_true rfl) (Nat.le_of_ble_eq_true rfl) (PW.mono h ?_)
  rintro _ σ1 ⟨v1, rfl, h⟩
  show PW none 184 6 [some (.ref 39), some (.int a), some (.int b)] [.int v1] σ1 _
  refine PW.ifc (t := 12) (ins_l hw_184 rfl) rfl (fun hc1 => ?_) (fun hc1 => ?_)
  · replace h := (if_neg (c_neT hc1)).mp h
    refine PW.runs hw_184 rfl 3 (q := (12, [some (.ref 39), some (.int a), some (.int b)], [], σ1)) (q' := (17, [some (.ref 39), some (.int a), some (.int b)], [.int 4, .int (σ1 39 34)], σ1)) rfl ?_
    refine PW.icm (t := 23) (ins_l hw_184 rfl) rfl (fun hc2 => ?_) (fun hc2 => ?_)
    · replace h := (if_neg (c_neT hc2)).mp h
      refine PW.runs hw_184 rfl 5 (q := (23, [some (.ref 39), some (.int a), some (.int b)], [], σ1)) (q' := (32, [some (.ref 39), some (.int a), some (.int b)], [.int a, .int (σ1 39 34), .ref 57], σ1)) rfl ?_
      obtain ⟨hb1, h⟩ := h
      refine PW.iast (n := 4) (ins_l hw_184 rfl) rfl (idx_in hb1.1 hb1.2).1 ?_
      refine PW.runs hw_184 rfl 5 (q := (33, [some (.ref 39), some (.int a), some (.int b)], [], (s2 σ1 57 (Int32.toNatClampNeg (σ1 39 34)) a))) (q' := (42, [some (.ref 39), some (.int a), some (.int b)], [.int b, .int (σ1 39 34), .ref 58], (s2 σ1 57 (Int32.toNatClampNeg (σ1 39 34)) a))) rfl ?_
      refine PW.iast (n := 4) (ins_l hw_184 rfl) rfl (idx_in hb1.1 hb1.2).1 ?_
      refine PW.runs hw_184 rfl 8 (q := (43, [some (.ref 39), some (.int a), some (.int b)], [], (s2 (s2 σ1 57 (Int32.toNatClampNeg (σ1 39 34)) a) 58 (Int32.toNatClampNeg (σ1 39 34)) b))) (q' := (57, [some (.ref 39), some (.int a), some (.int b)], [.int ((σ1 39 34) + 1)], (s2 (s2 (s2 σ1 57 (Int32.toNatClampNeg (σ1 39 34)) a) 58 (Int32.toNatClampNeg (σ1 39 34)) b) 39 34 ((σ1 39 34) + 1)))) rfl ?_
      exact PW.iret (ins_l hw_184 rfl) (Or.inl rfl) ⟨_, rfl, h⟩
    · replace h := (if_pos (c_neF hc2)).mp h
      refine PW.runs hw_184 rfl 1 (q := (20, [some (.ref 39), some (.int a), some (.int b)], [], σ1)) (q' := (22, [some (.ref 39), some (.int a), some (.int b)], [.int (-1000000004)], σ1)) rfl ?_
      exact PW.iret (ins_l hw_184 rfl) (Or.inl rfl) ⟨_, rfl, h⟩
  · replace h := (if_pos (c_neF hc1)).mp h
    refine PW.runs hw_184 rfl 1 (q := (9, [some (.ref 39), some (.int a), some (.int b)], [], σ1)) (q' := (11, [some (.ref 39), some (.int a), some (.int b)], [.int (-1000000001)], σ1)) rfl ?_
    exact PW.iret (ins_l hw_184 rfl) (Or.inl rfl) ⟨_, rfl, h⟩
theorem hw_113 : pins.getD 113 [] = pi_113 := rfl
/-! MapDutyModel.areTwo.(II)Z -/
set_option maxRecDepth 20000 in
theorem w_113 {a : Int32} {b : Int32} {σ : St} {K : Int32 → St → Prop} (h : CI 112 [.ref 39, .int a] σ (fun v1 σ1 => (if v1 = 0 then K 0 σ1 else CI 112 [.ref 39, .int b] σ1 (fun v2 σ2 => (if v2 = 0 then K 0 σ2 else (if a = b then K 0 σ2 else K 1 σ2)))))) : CI 113 [.ref 39, .int a, .int b] σ K := by
  show PW none 113 0 [some (.ref 39), some (.int a), some (.int b)] [] σ _
  refine PW.runs hw_113 rfl 2 (q := (0, [some (.ref 39), some (.int a), some (.int b)], [], σ)) (q' := (2, [some (.ref 39), some (.int a), some (.int b)], [.int a, .ref 39], σ)) rfl ?_
  refine PW.callV (b := 39) (vs := [.int a]) (rest := []) (ins_l hw_113 rfl) rfl rfl rfl (Nat.le_of_ble_eq_true rfl) (Nat.le_of_ble_eq_true rfl) (PW.mono h ?_)
  rintro _ σ1 ⟨v1, rfl, h⟩
  show PW none 113 5 [some (.ref 39), some (.int a), some (.int b)] [.int v1] σ1 _
  refine PW.ifc (t := 25) (ins_l hw_113 rfl) rfl (fun hc1 => ?_) (fun hc1 => ?_)
  · replace h := (if_pos (c_eqT hc1)).mp h
    refine PW.runs hw_113 rfl 1 (q := (25, [some (.ref 39), some (.int a), some (.int b)], [], σ1)) (q' := (26, [some (.ref 39), some (.int a), some (.int b)], [.int 0], σ1)) rfl ?_
    exact PW.iret (ins_l hw_113 rfl) (Or.inr ⟨rfl, by decide⟩) ⟨_, rfl, h⟩
  · replace h := (if_neg (c_eqF hc1)).mp h
    refine PW.runs hw_113 rfl 2 (q := (8, [some (.ref 39), some (.int a), some (.int b)], [], σ1)) (q' := (10, [some (.ref 39), some (.int a), some (.int b)], [.int b, .ref 39], σ1)) rfl ?_
    refine PW.callV (b := 39) (vs := [.int b]) (rest := []) (ins_l hw_113 rfl) rfl rfl rfl (Nat.le_of_ble_eq_true rfl) (Nat.le_of_ble_eq_true rfl) (PW.mono h ?_)
    rintro _ σ2 ⟨v2, rfl, h⟩
    show PW none 113 13 [some (.ref 39), some (.int a), some (.int b)] [.int v2] σ2 _
    refine PW.ifc (t := 25) (ins_l hw_113 rfl) rfl (fun hc2 => ?_) (fun hc2 => ?_)
    · replace h := (if_pos (c_eqT hc2)).mp h
      refine PW.runs hw_113 rfl 1 (q := (25, [some (.ref 39), some (.int a), some (.int b)], [], σ2)) (q' := (26, [some (.ref 39), some (.int a), some (.int b)], [.int 0], σ2)) rfl ?_
      exact PW.iret (ins_l hw_113 rfl) (Or.inr ⟨rfl, by decide⟩) ⟨_, rfl, h⟩
    · replace h := (if_neg (c_eqF hc2)).mp h
      refine PW.runs hw_113 rfl 2 (q := (16, [some (.ref 39), some (.int a), some (.int b)], [], σ2)) (q' := (18, [some (.ref 39), some (.int a), some (.int b)], [.int b, .int a], σ2)) rfl ?_
      refine PW.icm (t := 25) (ins_l hw_113 rfl) rfl (fun hc3 => ?_) (fun hc3 => ?_)
      · replace h := (if_pos (c_eqT hc3)).mp h
        refine PW.runs hw_113 rfl 1 (q := (25, [some (.ref 39), some (.int a), some (.int b)], [], σ2)) (q' := (26, [some (.ref 39), some (.int a), some (.int b)], [.int 0], σ2)) rfl ?_
        exact PW.iret (ins_l hw_113 rfl) (Or.inr ⟨rfl, by decide⟩) ⟨_, rfl, h⟩
      · replace h := (if_neg (c_eqF hc3)).mp h
        refine PW.runs hw_113 rfl 2 (q := (21, [some (.ref 39), some (.int a), some (.int b)], [], σ2)) (q' := (26, [some (.ref 39), some (.int a), some (.int b)], [.int 1], σ2)) rfl ?_
        exact PW.iret (ins_l hw_113 rfl) (Or.inr ⟨rfl, by decide⟩) ⟨_, rfl, h⟩
theorem hw_112 : pins.getD 112 [] = pi_112 := rfl
/-! MapDutyModel.isPlace.(I)Z -/
set_option maxRecDepth 20000 in
theorem w_112 {a : Int32} {σ : St} {K : Int32 → St → Prop} (h : CI 109 [.long (Int32.toInt64 a), .long 0, .long (Int32.toInt64 ((σ 39 0) - 1))] σ (fun v1 σ1 => ((v1 = 0 ∨ v1 = 1) ∧ K v1 σ1))) : CI 112 [.ref 39, .int a] σ K := by
  show PW none 112 0 [some (.ref 39), some (.int a)] [] σ _
  refine PW.runs hw_112 rfl 8 (q := (0, [some (.ref 39), some (.int a)], [], σ)) (q' := (10, [some (.ref 39), some (.int a)], [.long (Int32.toInt64 ((σ 39 0) - 1)), .long 0, .long (Int32.toInt64 a)], σ)) rfl ?_
  refine PW.callS (vs := [.long (Int32.toInt64 a), .long 0, .long (Int32.toInt64 ((σ 39 0) - 1))]) (rest := []) (ins_l hw_112 rfl) rfl (Or.inl rfl) rfl (Nat.le_of_ble_eq_true rfl) (Nat.le_of_ble_eq_true rfl) (PW.mono h ?_)
  rintro _ σ1 ⟨v1, rfl, h⟩
  show PW none 112 13 [some (.ref 39), some (.int a)] [.int v1] σ1 _
  exact PW.iret (ins_l hw_112 rfl) (Or.inr ⟨rfl, h.1⟩) ⟨_, rfl, h.2⟩
theorem hw_115 : pins.getD 115 [] = pi_115 := rfl
/-! MapDutyModel.isMap.(I)Z -/
set_option maxRecDepth 20000 in
theorem w_115 {a : Int32} {σ : St} {K : Int32 → St → Prop} (h : CI 109 [.long (Int32.toInt64 a), .long 0, .long (Int32.toInt64 ((σ 39 6) - 1))] σ (fun v1 σ1 => ((v1 = 0 ∨ v1 = 1) ∧ K v1 σ1))) : CI 115 [.ref 39, .int a] σ K := by
  show PW none 115 0 [some (.ref 39), some (.int a)] [] σ _
  refine PW.runs hw_115 rfl 8 (q := (0, [some (.ref 39), some (.int a)], [], σ)) (q' := (10, [some (.ref 39), some (.int a)], [.long (Int32.toInt64 ((σ 39 6) - 1)), .long 0, .long (Int32.toInt64 a)], σ)) rfl ?_
  refine PW.callS (vs := [.long (Int32.toInt64 a), .long 0, .long (Int32.toInt64 ((σ 39 6) - 1))]) (rest := []) (ins_l hw_115 rfl) rfl (Or.inl rfl) rfl (Nat.le_of_ble_eq_true rfl) (Nat.le_of_ble_eq_true rfl) (PW.mono h ?_)
  rintro _ σ1 ⟨v1, rfl, h⟩
  show PW none 115 13 [some (.ref 39), some (.int a)] [.int v1] σ1 _
  exact PW.iret (ins_l hw_115 rfl) (Or.inr ⟨rfl, h.1⟩) ⟨_, rfl, h.2⟩
theorem hw_185 : pins.getD 185 [] = pi_185 := rfl
/-! MapDutyModel.write.(II)I -/
set_option maxRecDepth 20000 in
theorem w_185 {a : Int32} {b : Int32} {σ : St} {K : Int32 → St → Prop} (h : CI 115 [.ref 39, .int a] σ (fun v1 σ1 => (if v1 = 0 then K (-1000000001) σ1 else CI 109 [.long (Int32.toInt64 b), .long 0, .long 99999] σ1 (fun v2 σ2 => (if v2 = 0 then K (-1000000002) σ2 else (if (σ2 39 37) = 15 then K (-1000000004) σ2 else ((0 ≤ (σ2 39 37).toInt ∧ (σ2 39 37).toInt < 15) ∧ K ((σ2 39 37) + 1) (s2 (s2 (s2 σ2 59 (Int32.toNatClampNeg (σ2 39 37)) a) 60 (Int32.toNatClampNeg (σ2 39 37)) b) 39 37 ((σ2 39 37) + 1))))))))) : CI 185 [.ref 39, .int a, .int b] σ K := by
  show PW none 185 0 [some (.ref 39), some (.int a), some (.int b)] [] σ _
  refine PW.runs hw_185 rfl 2 (q := (0, [some (.ref 39), some (.int a), some (.int b)], [], σ)) (q' := (2, [some (.ref 39), some (.int a), some (.int b)], [.int a, .ref 39], σ)) rfl ?_
  refine PW.callV (b := 39) (vs := [.int a]) (rest := []) (ins_l hw_185 rfl) rfl rfl rfl (Nat.le_of_ble_eq_true rfl) (Nat.le_of_ble_eq_true rfl) (PW.mono h ?_)
  rintro _ σ1 ⟨v1, rfl, h⟩
  show PW none 185 5 [some (.ref 39), some (.int a), some (.int b)] [.int v1] σ1 _
  refine PW.ifc (t := 11) (ins_l hw_185 rfl) rfl (fun hc1 => ?_) (fun hc1 => ?_)
  · replace h := (if_neg (c_neT hc1)).mp h
    refine PW.runs hw_185 rfl 4 (q := (11, [some (.ref 39), some (.int a), some (.int b)], [], σ1)) (q' := (17, [some (.ref 39), some (.int a), some (.int b)], [.long 99999, .long 0, .long (Int32.toInt64 b)], σ1)) rfl ?_
    refine PW.callS (vs := [.long (Int32.toInt64 b), .long 0, .long 99999]) (rest := []) (ins_l hw_185 rfl) rfl (Or.inl rfl) rfl (Nat.le_of_ble_eq_true rfl) (Nat.le_of_ble_eq_true rfl) (PW.mono h ?_)
    rintro _ σ2 ⟨v2, rfl, h⟩
    show PW none 185 20 [some (.ref 39), some (.int a), some (.int b)] [.int v2] σ2 _
    refine PW.ifc (t := 26) (ins_l hw_185 rfl) rfl (fun hc2 => ?_) (fun hc2 => ?_)
    · replace h := (if_neg (c_neT hc2)).mp h
      refine PW.runs hw_185 rfl 3 (q := (26, [some (.ref 39), some (.int a), some (.int b)], [], σ2)) (q' := (32, [some (.ref 39), some (.int a), some (.int b)], [.int 15, .int (σ2 39 37)], σ2)) rfl ?_
      refine PW.icm (t := 38) (ins_l hw_185 rfl) rfl (fun hc3 => ?_) (fun hc3 => ?_)
      · replace h := (if_neg (c_neT hc3)).mp h
        refine PW.runs hw_185 rfl 5 (q := (38, [some (.ref 39), some (.int a), some (.int b)], [], σ2)) (q' := (47, [some (.ref 39), some (.int a), some (.int b)], [.int a, .int (σ2 39 37), .ref 59], σ2)) rfl ?_
        obtain ⟨hb1, h⟩ := h
        refine PW.iast (n := 15) (ins_l hw_185 rfl) rfl (idx_in hb1.1 hb1.2).1 ?_
        refine PW.runs hw_185 rfl 5 (q := (48, [some (.ref 39), some (.int a), some (.int b)], [], (s2 σ2 59 (Int32.toNatClampNeg (σ2 39 37)) a))) (q' := (57, [some (.ref 39), some (.int a), some (.int b)], [.int b, .int (σ2 39 37), .ref 60], (s2 σ2 59 (Int32.toNatClampNeg (σ2 39 37)) a))) rfl ?_
        refine PW.iast (n := 15) (ins_l hw_185 rfl) rfl (idx_in hb1.1 hb1.2).1 ?_
        refine PW.runs hw_185 rfl 8 (q := (58, [some (.ref 39), some (.int a), some (.int b)], [], (s2 (s2 σ2 59 (Int32.toNatClampNeg (σ2 39 37)) a) 60 (Int32.toNatClampNeg (σ2 39 37)) b))) (q' := (72, [some (.ref 39), some (.int a), some (.int b)], [.int ((σ2 39 37) + 1)], (s2 (s2 (s2 σ2 59 (Int32.toNatClampNeg (σ2 39 37)) a) 60 (Int32.toNatClampNeg (σ2 39 37)) b) 39 37 ((σ2 39 37) + 1)))) rfl ?_
        exact PW.iret (ins_l hw_185 rfl) (Or.inl rfl) ⟨_, rfl, h⟩
      · replace h := (if_pos (c_neF hc3)).mp h
        refine PW.runs hw_185 rfl 1 (q := (35, [some (.ref 39), some (.int a), some (.int b)], [], σ2)) (q' := (37, [some (.ref 39), some (.int a), some (.int b)], [.int (-1000000004)], σ2)) rfl ?_
        exact PW.iret (ins_l hw_185 rfl) (Or.inl rfl) ⟨_, rfl, h⟩
    · replace h := (if_pos (c_neF hc2)).mp h
      refine PW.runs hw_185 rfl 1 (q := (23, [some (.ref 39), some (.int a), some (.int b)], [], σ2)) (q' := (25, [some (.ref 39), some (.int a), some (.int b)], [.int (-1000000002)], σ2)) rfl ?_
      exact PW.iret (ins_l hw_185 rfl) (Or.inl rfl) ⟨_, rfl, h⟩
  · replace h := (if_pos (c_neF hc1)).mp h
    refine PW.runs hw_185 rfl 1 (q := (8, [some (.ref 39), some (.int a), some (.int b)], [], σ1)) (q' := (10, [some (.ref 39), some (.int a), some (.int b)], [.int (-1000000001)], σ1)) rfl ?_
    exact PW.iret (ins_l hw_185 rfl) (Or.inl rfl) ⟨_, rfl, h⟩
theorem hw_186 : pins.getD 186 [] = pi_186 := rfl
/-! MapDutyModel.tear.()I -/
set_option maxRecDepth 20000 in
theorem w_186  {σ : St} {K : Int32 → St → Prop} (h : K ((σ 39 34) + (σ 39 37)) (s2 (s2 σ 39 34 0) 39 37 0)) : CI 186 [.ref 39] σ K := by
  show PW none 186 0 [some (.ref 39), none] [] σ _
  refine PW.runs hw_186 rfl 13 (q := (0, [some (.ref 39), none], [], σ)) (q' := (21, [some (.ref 39), some (.int ((σ 39 34) + (σ 39 37)))], [.int ((σ 39 34) + (σ 39 37))], (s2 (s2 σ 39 34 0) 39 37 0))) rfl ?_
  exact PW.iret (ins_l hw_186 rfl) (Or.inl rfl) ⟨_, rfl, h⟩
theorem hw_82 : pins.getD 82 [] = pi_82 := rfl
/-! MapDuty.keep.(I)I -/
set_option maxRecDepth 20000 in
theorem w_82 {a : Int32} {σ : St} {K : Int32 → St → Prop} (h : CI 88 [.ref 0, .int a] σ (fun v1 σ1 => (if v1 = 0 then K (-1000000001) σ1 else CV 47 [.ref 25, .int a, .ref 19] σ1 (fun σ2 => CI 93 [.int (σ2 0 11), .int a, .int 1] σ2 (fun v3 σ3 => CV 11 [.ref 24] (s2 σ3 0 11 v3) (fun σ4 => K 1 σ4)))))) : CI 82 [.ref 0, .int a] σ K := by
  show PW none 82 0 [some (.ref 0), some (.int a)] [] σ _
  refine PW.runs hw_82 rfl 2 (q := (0, [some (.ref 0), some (.int a)], [], σ)) (q' := (2, [some (.ref 0), some (.int a)], [.int a, .ref 0], σ)) rfl ?_
  refine PW.callV (b := 0) (vs := [.int a]) (rest := []) (ins_l hw_82 rfl) rfl rfl rfl (Nat.le_of_ble_eq_true rfl) (Nat.le_of_ble_eq_true rfl) (PW.mono h ?_)
  rintro _ σ1 ⟨v1, rfl, h⟩
  show PW none 82 5 [some (.ref 0), some (.int a)] [.int v1] σ1 _
  refine PW.ifc (t := 11) (ins_l hw_82 rfl) rfl (fun hc1 => ?_) (fun hc1 => ?_)
  · replace h := (if_neg (c_neT hc1)).mp h
    refine PW.runs hw_82 rfl 5 (q := (11, [some (.ref 0), some (.int a)], [], σ1)) (q' := (20, [some (.ref 0), some (.int a)], [.ref 19, .int a, .ref 25], σ1)) rfl ?_
    refine PW.callV (b := 25) (vs := [.int a, .ref 19]) (rest := []) (ins_l hw_82 rfl) rfl rfl rfl (Nat.le_of_ble_eq_true rfl) (Nat.le_of_ble_eq_true rfl) (PW.mono h ?_)
    rintro _ σ2 ⟨rfl, h⟩
    show PW none 82 23 [some (.ref 0), some (.int a)] [] σ2 _
    refine PW.runs hw_82 rfl 5 (q := (23, [some (.ref 0), some (.int a)], [], σ2)) (q' := (30, [some (.ref 0), some (.int a)], [.int 1, .int a, .int (σ2 0 11), .ref 0], σ2)) rfl ?_
    refine PW.callS (vs := [.int (σ2 0 11), .int a, .int 1]) (rest := [.ref 0]) (ins_l hw_82 rfl) rfl (Or.inl rfl) rfl (Nat.le_of_ble_eq_true rfl) (Nat.le_of_ble_eq_true rfl) (PW.mono h ?_)
    rintro _ σ3 ⟨v3, rfl, h⟩
    show PW none 82 33 [some (.ref 0), some (.int a)] [.int v3, .ref 0] σ3 _
    refine PW.runs hw_82 rfl 3 (q := (33, [some (.ref 0), some (.int a)], [.int v3, .ref 0], σ3)) (q' := (40, [some (.ref 0), some (.int a)], [.ref 24], (s2 σ3 0 11 v3))) rfl ?_
    refine PW.callV (b := 24) (vs := []) (rest := []) (ins_l hw_82 rfl) rfl rfl rfl (Nat.le_of_ble_eq_true rfl) (Nat.le_of_ble_eq_true rfl) (PW.mono h ?_)
    rintro _ σ4 ⟨rfl, h⟩
    show PW none 82 43 [some (.ref 0), some (.int a)] [] σ4 _
    refine PW.runs hw_82 rfl 1 (q := (43, [some (.ref 0), some (.int a)], [], σ4)) (q' := (44, [some (.ref 0), some (.int a)], [.int 1], σ4)) rfl ?_
    exact PW.iret (ins_l hw_82 rfl) (Or.inl rfl) ⟨_, rfl, h⟩
  · replace h := (if_pos (c_neF hc1)).mp h
    refine PW.runs hw_82 rfl 1 (q := (8, [some (.ref 0), some (.int a)], [], σ1)) (q' := (10, [some (.ref 0), some (.int a)], [.int (-1000000001)], σ1)) rfl ?_
    exact PW.iret (ins_l hw_82 rfl) (Or.inl rfl) ⟨_, rfl, h⟩
theorem hw_83 : pins.getD 83 [] = pi_83 := rfl
/-! MapDuty.goBack.(I)I -/
set_option maxRecDepth 20000 in
theorem w_83 {a : Int32} {σ : St} {K : Int32 → St → Prop} (h : CI 88 [.ref 0, .int a] σ (fun v1 σ1 => (if v1 = 0 then K (-1000000001) σ1 else CI 92 [.int (σ1 0 11), .int a] σ1 (fun v2 σ2 => (if v2 = 0 then K (-1000000003) σ2 else CV 48 [.ref 25, .int a, .ref 19] σ2 (fun σ3 => CV 11 [.ref 24] σ3 (fun σ4 => K 1 σ4))))))) : CI 83 [.ref 0, .int a] σ K := by
  show PW none 83 0 [some (.ref 0), some (.int a)] [] σ _
  refine PW.runs hw_83 rfl 2 (q := (0, [some (.ref 0), some (.int a)], [], σ)) (q' := (2, [some (.ref 0), some (.int a)], [.int a, .ref 0], σ)) rfl ?_
  refine PW.callV (b := 0) (vs := [.int a]) (rest := []) (ins_l hw_83 rfl) rfl rfl rfl (Nat.le_of_ble_eq_true rfl) (Nat.le_of_ble_eq_true rfl) (PW.mono h ?_)
  rintro _ σ1 ⟨v1, rfl, h⟩
  show PW none 83 5 [some (.ref 0), some (.int a)] [.int v1] σ1 _
  refine PW.ifc (t := 11) (ins_l hw_83 rfl) rfl (fun hc1 => ?_) (fun hc1 => ?_)
  · replace h := (if_neg (c_neT hc1)).mp h
    refine PW.runs hw_83 rfl 3 (q := (11, [some (.ref 0), some (.int a)], [], σ1)) (q' := (16, [some (.ref 0), some (.int a)], [.int a, .int (σ1 0 11)], σ1)) rfl ?_
    refine PW.callS (vs := [.int (σ1 0 11), .int a]) (rest := []) (ins_l hw_83 rfl) rfl (Or.inl rfl) rfl (Nat.le_of_ble_eq_true rfl) (Nat.le_of_ble_eq_true rfl) (PW.mono h ?_)
    rintro _ σ2 ⟨v2, rfl, h⟩
    show PW none 83 19 [some (.ref 0), some (.int a)] [.int v2] σ2 _
    refine PW.ifc (t := 25) (ins_l hw_83 rfl) rfl (fun hc2 => ?_) (fun hc2 => ?_)
    · replace h := (if_neg (c_neT hc2)).mp h
      refine PW.runs hw_83 rfl 5 (q := (25, [some (.ref 0), some (.int a)], [], σ2)) (q' := (34, [some (.ref 0), some (.int a)], [.ref 19, .int a, .ref 25], σ2)) rfl ?_
      refine PW.callV (b := 25) (vs := [.int a, .ref 19]) (rest := []) (ins_l hw_83 rfl) rfl rfl rfl (Nat.le_of_ble_eq_true rfl) (Nat.le_of_ble_eq_true rfl) (PW.mono h ?_)
      rintro _ σ3 ⟨rfl, h⟩
      show PW none 83 37 [some (.ref 0), some (.int a)] [] σ3 _
      refine PW.runs hw_83 rfl 2 (q := (37, [some (.ref 0), some (.int a)], [], σ3)) (q' := (41, [some (.ref 0), some (.int a)], [.ref 24], σ3)) rfl ?_
      refine PW.callV (b := 24) (vs := []) (rest := []) (ins_l hw_83 rfl) rfl rfl rfl (Nat.le_of_ble_eq_true rfl) (Nat.le_of_ble_eq_true rfl) (PW.mono h ?_)
      rintro _ σ4 ⟨rfl, h⟩
      show PW none 83 44 [some (.ref 0), some (.int a)] [] σ4 _
      refine PW.runs hw_83 rfl 1 (q := (44, [some (.ref 0), some (.int a)], [], σ4)) (q' := (45, [some (.ref 0), some (.int a)], [.int 1], σ4)) rfl ?_
      exact PW.iret (ins_l hw_83 rfl) (Or.inl rfl) ⟨_, rfl, h⟩
    · replace h := (if_pos (c_neF hc2)).mp h
      refine PW.runs hw_83 rfl 1 (q := (22, [some (.ref 0), some (.int a)], [], σ2)) (q' := (24, [some (.ref 0), some (.int a)], [.int (-1000000003)], σ2)) rfl ?_
      exact PW.iret (ins_l hw_83 rfl) (Or.inl rfl) ⟨_, rfl, h⟩
  · replace h := (if_pos (c_neF hc1)).mp h
    refine PW.runs hw_83 rfl 1 (q := (8, [some (.ref 0), some (.int a)], [], σ1)) (q' := (10, [some (.ref 0), some (.int a)], [.int (-1000000001)], σ1)) rfl ?_
    exact PW.iret (ins_l hw_83 rfl) (Or.inl rfl) ⟨_, rfl, h⟩
theorem hw_88 : pins.getD 88 [] = pi_88 := rfl
/-! MapDuty.isImage.(I)Z -/
set_option maxRecDepth 20000 in
theorem w_88 {a : Int32} {σ : St} {K : Int32 → St → Prop} (h : (if a < 0 then K 0 σ else (if 2 ≤ a then K 0 σ else K 1 σ))) : CI 88 [.ref 0, .int a] σ K := by
  show PW none 88 0 [some (.ref 0), some (.int a)] [] σ _
  refine PW.runs hw_88 rfl 1 (q := (0, [some (.ref 0), some (.int a)], [], σ)) (q' := (1, [some (.ref 0), some (.int a)], [.int a], σ)) rfl ?_
  refine PW.ifc (t := 13) (ins_l hw_88 rfl) rfl (fun hc1 => ?_) (fun hc1 => ?_)
  · replace h := (if_pos (c_ltT hc1)).mp h
    refine PW.runs hw_88 rfl 1 (q := (13, [some (.ref 0), some (.int a)], [], σ)) (q' := (14, [some (.ref 0), some (.int a)], [.int 0], σ)) rfl ?_
    exact PW.iret (ins_l hw_88 rfl) (Or.inr ⟨rfl, by decide⟩) ⟨_, rfl, h⟩
  · replace h := (if_neg (c_ltF hc1)).mp h
    refine PW.runs hw_88 rfl 2 (q := (4, [some (.ref 0), some (.int a)], [], σ)) (q' := (6, [some (.ref 0), some (.int a)], [.int 2, .int a], σ)) rfl ?_
    refine PW.icm (t := 13) (ins_l hw_88 rfl) rfl (fun hc2 => ?_) (fun hc2 => ?_)
    · replace h := (if_pos (c_geT hc2)).mp h
      refine PW.runs hw_88 rfl 1 (q := (13, [some (.ref 0), some (.int a)], [], σ)) (q' := (14, [some (.ref 0), some (.int a)], [.int 0], σ)) rfl ?_
      exact PW.iret (ins_l hw_88 rfl) (Or.inr ⟨rfl, by decide⟩) ⟨_, rfl, h⟩
    · replace h := (if_neg (c_geF hc2)).mp h
      refine PW.runs hw_88 rfl 2 (q := (9, [some (.ref 0), some (.int a)], [], σ)) (q' := (14, [some (.ref 0), some (.int a)], [.int 1], σ)) rfl ?_
      exact PW.iret (ins_l hw_88 rfl) (Or.inr ⟨rfl, by decide⟩) ⟨_, rfl, h⟩
theorem hw_93 : pins.getD 93 [] = pi_93 := rfl
/-! MapDuty.withBit.(IIZ)I -/
set_option maxRecDepth 20000 in
theorem w_93 {a : Int32} {b : Int32} {c : Int32} {σ : St} {K : Int32 → St → Prop} (h : (if c = 0 then K (a &&& ((1 <<< (b &&& 31)) ^^^ (-1))) σ else K (a ||| (1 <<< (b &&& 31))) σ)) : CI 93 [.int a, .int b, .int c] σ K := by
  show PW none 93 0 [some (.int a), some (.int b), some (.int c)] [] σ _
  refine PW.runs hw_93 rfl 1 (q := (0, [some (.int a), some (.int b), some (.int c)], [], σ)) (q' := (1, [some (.int a), some (.int b), some (.int c)], [.int c], σ)) rfl ?_
  refine PW.ifc (t := 12) (ins_l hw_93 rfl) rfl (fun hc1 => ?_) (fun hc1 => ?_)
  · replace h := (if_pos (c_eqT hc1)).mp h
    refine PW.runs hw_93 rfl 7 (q := (12, [some (.int a), some (.int b), some (.int c)], [], σ)) (q' := (19, [some (.int a), some (.int b), some (.int c)], [.int (a &&& ((1 <<< (b &&& 31)) ^^^ (-1)))], σ)) rfl ?_
    exact PW.iret (ins_l hw_93 rfl) (Or.inl rfl) ⟨_, rfl, h⟩
  · replace h := (if_neg (c_eqF hc1)).mp h
    refine PW.runs hw_93 rfl 6 (q := (4, [some (.int a), some (.int b), some (.int c)], [], σ)) (q' := (19, [some (.int a), some (.int b), some (.int c)], [.int (a ||| (1 <<< (b &&& 31)))], σ)) rfl ?_
    exact PW.iret (ins_l hw_93 rfl) (Or.inl rfl) ⟨_, rfl, h⟩
theorem hw_92 : pins.getD 92 [] = pi_92 := rfl
/-! MapDuty.bit.(II)I -/
set_option maxRecDepth 20000 in
theorem w_92 {a : Int32} {b : Int32} {σ : St} {K : Int32 → St → Prop} (h : K ((ush a b) &&& 1) σ) : CI 92 [.int a, .int b] σ K := by
  show PW none 92 0 [some (.int a), some (.int b)] [] σ _
  refine PW.runs hw_92 rfl 5 (q := (0, [some (.int a), some (.int b)], [], σ)) (q' := (5, [some (.int a), some (.int b)], [.int ((ush a b) &&& 1)], σ)) rfl ?_
  exact PW.iret (ins_l hw_92 rfl) (Or.inl rfl) ⟨_, rfl, h⟩
theorem hw_47 : pins.getD 47 [] = pi_47 := rfl
/-! MapDuty$Shelf.put.(ILMapDuty$Standing;)V -/
set_option maxRecDepth 20000 in
theorem w_47_25 {a : Int32} {σ : St} {K : St → Prop} (h : (if a < 0 then K σ else (if a < (σ 25 0) then ((0 ≤ (a * 15).toInt ∧ (a * 15).toInt < 30) ∧ ((0 ≤ ((a * 15) + 1).toInt ∧ ((a * 15) + 1).toInt < 30) ∧ ((0 ≤ ((a * 15) + 2).toInt ∧ ((a * 15) + 2).toInt < 30) ∧ ((0 ≤ ((a * 15) + 3).toInt ∧ ((a * 15) + 3).toInt < 30) ∧ ((0 ≤ ((a * 15) + 4).toInt ∧ ((a * 15) + 4).toInt < 30) ∧ ((¬ (0 : Int32) < 0 ∧ ¬ (((a * 15) + 5) : Int32) < 0 ∧ ¬ (5 : Int32) < 0 ∧ 0 + 5 ≤ 5 ∧ (Int32.toNatClampNeg ((a * 15) + 5)) + 5 ≤ 30) ∧ ((¬ (0 : Int32) < 0 ∧ ¬ (((a * 15) + 10) : Int32) < 0 ∧ ¬ (5 : Int32) < 0 ∧ 0 + 5 ≤ 5 ∧ (Int32.toNatClampNeg ((a * 15) + 10)) + 5 ≤ 30) ∧ K (sr (sr (s2 (s2 (s2 (s2 (s2 σ 26 (Int32.toNatClampNeg (a * 15)) (σ 19 0)) 26 (Int32.toNatClampNeg ((a * 15) + 1)) (σ 19 1)) 26 (Int32.toNatClampNeg ((a * 15) + 2)) (σ 19 2)) 26 (Int32.toNatClampNeg ((a * 15) + 3)) (σ 19 3)) 26 (Int32.toNatClampNeg ((a * 15) + 4)) (σ 19 4)) 26 (va_cpy (σ 20) ((s2 (s2 (s2 (s2 (s2 σ 26 (Int32.toNatClampNeg (a * 15)) (σ 19 0)) 26 (Int32.toNatClampNeg ((a * 15) + 1)) (σ 19 1)) 26 (Int32.toNatClampNeg ((a * 15) + 2)) (σ 19 2)) 26 (Int32.toNatClampNeg ((a * 15) + 3)) (σ 19 3)) 26 (Int32.toNatClampNeg ((a * 15) + 4)) (σ 19 4)) 26) 0 (Int32.toNatClampNeg ((a * 15) + 5)) 5)) 26 (va_cpy (σ 21) ((sr (s2 (s2 (s2 (s2 (s2 σ 26 (Int32.toNatClampNeg (a * 15)) (σ 19 0)) 26 (Int32.toNatClampNeg ((a * 15) + 1)) (σ 19 1)) 26 (Int32.toNatClampNeg ((a * 15) + 2)) (σ 19 2)) 26 (Int32.toNatClampNeg ((a * 15) + 3)) (σ 19 3)) 26 (Int32.toNatClampNeg ((a * 15) + 4)) (σ 19 4)) 26 (va_cpy (σ 20) ((s2 (s2 (s2 (s2 (s2 σ 26 (Int32.toNatClampNeg (a * 15)) (σ 19 0)) 26 (Int32.toNatClampNeg ((a * 15) + 1)) (σ 19 1)) 26 (Int32.toNatClampNeg ((a * 15) + 2)) (σ 19 2)) 26 (Int32.toNatClampNeg ((a * 15) + 3)) (σ 19 3)) 26 (Int32.toNatClampNeg ((a * 15) + 4)) (σ 19 4)) 26) 0 (Int32.toNatClampNeg ((a * 15) + 5)) 5)) 26) 0 (Int32.toNatClampNeg ((a * 15) + 10)) 5))))))))) else K σ))) : CV 47 [.ref 25, .int a, .ref 19] σ K := by
  show PW none 47 0 [some (.ref 25), some (.int a), some (.ref 19), none] [] σ _
  refine PW.runs hw_47 rfl 1 (q := (0, [some (.ref 25), some (.int a), some (.ref 19), none], [], σ)) (q' := (1, [some (.ref 25), some (.int a), some (.ref 19), none], [.int a], σ)) rfl ?_
  refine PW.ifc (t := 12) (ins_l hw_47 rfl) rfl (fun hc1 => ?_) (fun hc1 => ?_)
  · replace h := (if_pos (c_ltT hc1)).mp h
    exact PW.vret (ins_l hw_47 rfl) rfl ⟨rfl, h⟩
  · replace h := (if_neg (c_ltF hc1)).mp h
    refine PW.runs hw_47 rfl 3 (q := (4, [some (.ref 25), some (.int a), some (.ref 19), none], [], σ)) (q' := (9, [some (.ref 25), some (.int a), some (.ref 19), none], [.int (σ 25 0), .int a], σ)) rfl ?_
    refine PW.icm (t := 13) (ins_l hw_47 rfl) rfl (fun hc2 => ?_) (fun hc2 => ?_)
    · replace h := (if_pos (c_ltT hc2)).mp h
      refine PW.runs hw_47 rfl 9 (q := (13, [some (.ref 25), some (.int a), some (.ref 19), none], [], σ)) (q' := (27, [some (.ref 25), some (.int a), some (.ref 19), some (.int (a * 15))], [.int (σ 19 0), .int (a * 15), .ref 26], σ)) rfl ?_
      obtain ⟨hb1, h⟩ := h
      refine PW.iast (n := 30) (ins_l hw_47 rfl) rfl (idx_in hb1.1 hb1.2).1 ?_
      refine PW.runs hw_47 rfl 7 (q := (28, [some (.ref 25), some (.int a), some (.ref 19), some (.int (a * 15))], [], (s2 σ 26 (Int32.toNatClampNeg (a * 15)) (σ 19 0)))) (q' := (39, [some (.ref 25), some (.int a), some (.ref 19), some (.int (a * 15))], [.int (σ 19 1), .int ((a * 15) + 1), .ref 26], (s2 σ 26 (Int32.toNatClampNeg (a * 15)) (σ 19 0)))) rfl ?_
      obtain ⟨hb2, h⟩ := h
      refine PW.iast (n := 30) (ins_l hw_47 rfl) rfl (idx_in hb2.1 hb2.2).1 ?_
      refine PW.runs hw_47 rfl 7 (q := (40, [some (.ref 25), some (.int a), some (.ref 19), some (.int (a * 15))], [], (s2 (s2 σ 26 (Int32.toNatClampNeg (a * 15)) (σ 19 0)) 26 (Int32.toNatClampNeg ((a * 15) + 1)) (σ 19 1)))) (q' := (51, [some (.ref 25), some (.int a), some (.ref 19), some (.int (a * 15))], [.int (σ 19 2), .int ((a * 15) + 2), .ref 26], (s2 (s2 σ 26 (Int32.toNatClampNeg (a * 15)) (σ 19 0)) 26 (Int32.toNatClampNeg ((a * 15) + 1)) (σ 19 1)))) rfl ?_
      obtain ⟨hb3, h⟩ := h
      refine PW.iast (n := 30) (ins_l hw_47 rfl) rfl (idx_in hb3.1 hb3.2).1 ?_
      refine PW.runs hw_47 rfl 7 (q := (52, [some (.ref 25), some (.int a), some (.ref 19), some (.int (a * 15))], [], (s2 (s2 (s2 σ 26 (Int32.toNatClampNeg (a * 15)) (σ 19 0)) 26 (Int32.toNatClampNeg ((a * 15) + 1)) (σ 19 1)) 26 (Int32.toNatClampNeg ((a * 15) + 2)) (σ 19 2)))) (q' := (63, [some (.ref 25), some (.int a), some (.ref 19), some (.int (a * 15))], [.int (σ 19 3), .int ((a * 15) + 3), .ref 26], (s2 (s2 (s2 σ 26 (Int32.toNatClampNeg (a * 15)) (σ 19 0)) 26 (Int32.toNatClampNeg ((a * 15) + 1)) (σ 19 1)) 26 (Int32.toNatClampNeg ((a * 15) + 2)) (σ 19 2)))) rfl ?_
      obtain ⟨hb4, h⟩ := h
      refine PW.iast (n := 30) (ins_l hw_47 rfl) rfl (idx_in hb4.1 hb4.2).1 ?_
      refine PW.runs hw_47 rfl 7 (q := (64, [some (.ref 25), some (.int a), some (.ref 19), some (.int (a * 15))], [], (s2 (s2 (s2 (s2 σ 26 (Int32.toNatClampNeg (a * 15)) (σ 19 0)) 26 (Int32.toNatClampNeg ((a * 15) + 1)) (σ 19 1)) 26 (Int32.toNatClampNeg ((a * 15) + 2)) (σ 19 2)) 26 (Int32.toNatClampNeg ((a * 15) + 3)) (σ 19 3)))) (q' := (75, [some (.ref 25), some (.int a), some (.ref 19), some (.int (a * 15))], [.int (σ 19 4), .int ((a * 15) + 4), .ref 26], (s2 (s2 (s2 (s2 σ 26 (Int32.toNatClampNeg (a * 15)) (σ 19 0)) 26 (Int32.toNatClampNeg ((a * 15) + 1)) (σ 19 1)) 26 (Int32.toNatClampNeg ((a * 15) + 2)) (σ 19 2)) 26 (Int32.toNatClampNeg ((a * 15) + 3)) (σ 19 3)))) rfl ?_
      obtain ⟨hb5, h⟩ := h
      refine PW.iast (n := 30) (ins_l hw_47 rfl) rfl (idx_in hb5.1 hb5.2).1 ?_
      refine PW.runs hw_47 rfl 9 (q := (76, [some (.ref 25), some (.int a), some (.ref 19), some (.int (a * 15))], [], (s2 (s2 (s2 (s2 (s2 σ 26 (Int32.toNatClampNeg (a * 15)) (σ 19 0)) 26 (Int32.toNatClampNeg ((a * 15) + 1)) (σ 19 1)) 26 (Int32.toNatClampNeg ((a * 15) + 2)) (σ 19 2)) 26 (Int32.toNatClampNeg ((a * 15) + 3)) (σ 19 3)) 26 (Int32.toNatClampNeg ((a * 15) + 4)) (σ 19 4)))) (q' := (89, [some (.ref 25), some (.int a), some (.ref 19), some (.int (a * 15))], [.int 5, .int ((a * 15) + 5), .ref 26, .int 0, .ref 20], (s2 (s2 (s2 (s2 (s2 σ 26 (Int32.toNatClampNeg (a * 15)) (σ 19 0)) 26 (Int32.toNatClampNeg ((a * 15) + 1)) (σ 19 1)) 26 (Int32.toNatClampNeg ((a * 15) + 2)) (σ 19 2)) 26 (Int32.toNatClampNeg ((a * 15) + 3)) (σ 19 3)) 26 (Int32.toNatClampNeg ((a * 15) + 4)) (σ 19 4)))) rfl ?_
      obtain ⟨hb, h⟩ := h
      refine PW.copyC (na := 5) (nb := 30) (ins_l hw_47 rfl) rfl rfl rfl hb (Nat.le_of_ble_eq_true rfl) ?_
      refine PW.runs hw_47 rfl 9 (q := (92, [some (.ref 25), some (.int a), some (.ref 19), some (.int (a * 15))], [], (sr (s2 (s2 (s2 (s2 (s2 σ 26 (Int32.toNatClampNeg (a * 15)) (σ 19 0)) 26 (Int32.toNatClampNeg ((a * 15) + 1)) (σ 19 1)) 26 (Int32.toNatClampNeg ((a * 15) + 2)) (σ 19 2)) 26 (Int32.toNatClampNeg ((a * 15) + 3)) (σ 19 3)) 26 (Int32.toNatClampNeg ((a * 15) + 4)) (σ 19 4)) 26 (va_cpy (σ 20) ((s2 (s2 (s2 (s2 (s2 σ 26 (Int32.toNatClampNeg (a * 15)) (σ 19 0)) 26 (Int32.toNatClampNeg ((a * 15) + 1)) (σ 19 1)) 26 (Int32.toNatClampNeg ((a * 15) + 2)) (σ 19 2)) 26 (Int32.toNatClampNeg ((a * 15) + 3)) (σ 19 3)) 26 (Int32.toNatClampNeg ((a * 15) + 4)) (σ 19 4)) 26) 0 (Int32.toNatClampNeg ((a * 15) + 5)) 5)))) (q' := (106, [some (.ref 25), some (.int a), some (.ref 19), some (.int (a * 15))], [.int 5, .int ((a * 15) + 10), .ref 26, .int 0, .ref 21], (sr (s2 (s2 (s2 (s2 (s2 σ 26 (Int32.toNatClampNeg (a * 15)) (σ 19 0)) 26 (Int32.toNatClampNeg ((a * 15) + 1)) (σ 19 1)) 26 (Int32.toNatClampNeg ((a * 15) + 2)) (σ 19 2)) 26 (Int32.toNatClampNeg ((a * 15) + 3)) (σ 19 3)) 26 (Int32.toNatClampNeg ((a * 15) + 4)) (σ 19 4)) 26 (va_cpy (σ 20) ((s2 (s2 (s2 (s2 (s2 σ 26 (Int32.toNatClampNeg (a * 15)) (σ 19 0)) 26 (Int32.toNatClampNeg ((a * 15) + 1)) (σ 19 1)) 26 (Int32.toNatClampNeg ((a * 15) + 2)) (σ 19 2)) 26 (Int32.toNatClampNeg ((a * 15) + 3)) (σ 19 3)) 26 (Int32.toNatClampNeg ((a * 15) + 4)) (σ 19 4)) 26) 0 (Int32.toNatClampNeg ((a * 15) + 5)) 5)))) rfl ?_
      obtain ⟨hb, h⟩ := h
      refine PW.copyC (na := 5) (nb := 30) (ins_l hw_47 rfl) rfl rfl rfl hb (Nat.le_of_ble_eq_true rfl) ?_
      exact PW.vret (ins_l hw_47 rfl) rfl ⟨rfl, h⟩
    · replace h := (if_neg (c_ltF hc2)).mp h
      exact PW.vret (ins_l hw_47 rfl) rfl ⟨rfl, h⟩
theorem hw_48 : pins.getD 48 [] = pi_48 := rfl
/-! MapDuty$Shelf.fetch.(ILMapDuty$Standing;)V -/
set_option maxRecDepth 20000 in
theorem w_48_25 {a : Int32} {σ : St} {K : St → Prop} (h : (if a < 0 then K σ else (if a < (σ 25 0) then ((0 ≤ (a * 15).toInt ∧ (a * 15).toInt < 30) ∧ ((0 ≤ ((a * 15) + 1).toInt ∧ ((a * 15) + 1).toInt < 30) ∧ ((0 ≤ ((a * 15) + 2).toInt ∧ ((a * 15) + 2).toInt < 30) ∧ ((0 ≤ ((a * 15) + 3).toInt ∧ ((a * 15) + 3).toInt < 30) ∧ ((0 ≤ ((a * 15) + 4).toInt ∧ ((a * 15) + 4).toInt < 30) ∧ ((¬ (((a * 15) + 5) : Int32) < 0 ∧ ¬ (0 : Int32) < 0 ∧ ¬ (5 : Int32) < 0 ∧ (Int32.toNatClampNeg ((a * 15) + 5)) + 5 ≤ 30 ∧ 0 + 5 ≤ 5) ∧ ((¬ (((a * 15) + 10) : Int32) < 0 ∧ ¬ (0 : Int32) < 0 ∧ ¬ (5 : Int32) < 0 ∧ (Int32.toNatClampNeg ((a * 15) + 10)) + 5 ≤ 30 ∧ 0 + 5 ≤ 5) ∧ K (sr (sr (s2 (s2 (s2 (s2 (s2 σ 19 0 (σ 26 (Int32.toNatClampNeg (a * 15)))) 19 1 (σ 26 (Int32.toNatClampNeg ((a * 15) + 1)))) 19 2 (σ 26 (Int32.toNatClampNeg ((a * 15) + 2)))) 19 3 (σ 26 (Int32.toNatClampNeg ((a * 15) + 3)))) 19 4 (σ 26 (Int32.toNatClampNeg ((a * 15) + 4)))) 20 (va_cpy (σ 26) (σ 20) (Int32.toNatClampNeg ((a * 15) + 5)) 0 5)) 21 (va_cpy (σ 26) (σ 21) (Int32.toNatClampNeg ((a * 15) + 10)) 0 5))))))))) else K σ))) : CV 48 [.ref 25, .int a, .ref 19] σ K := by
  show PW none 48 0 [some (.ref 25), some (.int a), some (.ref 19), none] [] σ _
  refine PW.runs hw_48 rfl 1 (q := (0, [some (.ref 25), some (.int a), some (.ref 19), none], [], σ)) (q' := (1, [some (.ref 25), some (.int a), some (.ref 19), none], [.int a], σ)) rfl ?_
  refine PW.ifc (t := 12) (ins_l hw_48 rfl) rfl (fun hc1 => ?_) (fun hc1 => ?_)
  · replace h := (if_pos (c_ltT hc1)).mp h
    exact PW.vret (ins_l hw_48 rfl) rfl ⟨rfl, h⟩
  · replace h := (if_neg (c_ltF hc1)).mp h
    refine PW.runs hw_48 rfl 3 (q := (4, [some (.ref 25), some (.int a), some (.ref 19), none], [], σ)) (q' := (9, [some (.ref 25), some (.int a), some (.ref 19), none], [.int (σ 25 0), .int a], σ)) rfl ?_
    refine PW.icm (t := 13) (ins_l hw_48 rfl) rfl (fun hc2 => ?_) (fun hc2 => ?_)
    · replace h := (if_pos (c_ltT hc2)).mp h
      refine PW.runs hw_48 rfl 8 (q := (13, [some (.ref 25), some (.int a), some (.ref 19), none], [], σ)) (q' := (24, [some (.ref 25), some (.int a), some (.ref 19), some (.int (a * 15))], [.int (a * 15), .ref 26, .ref 19], σ)) rfl ?_
      obtain ⟨hb1, h⟩ := h
      refine PW.iald (n := 30) (ins_l hw_48 rfl) rfl (idx_in hb1.1 hb1.2).1 ?_
      refine PW.runs hw_48 rfl 7 (q := (25, [some (.ref 25), some (.int a), some (.ref 19), some (.int (a * 15))], [.int (σ 26 (Int32.toNatClampNeg (a * 15))), .ref 19], σ)) (q' := (36, [some (.ref 25), some (.int a), some (.ref 19), some (.int (a * 15))], [.int ((a * 15) + 1), .ref 26, .ref 19], (s2 σ 19 0 (σ 26 (Int32.toNatClampNeg (a * 15)))))) rfl ?_
      obtain ⟨hb2, h⟩ := h
      refine PW.iald (n := 30) (ins_l hw_48 rfl) rfl (idx_in hb2.1 hb2.2).1 ?_
      refine PW.runs hw_48 rfl 7 (q := (37, [some (.ref 25), some (.int a), some (.ref 19), some (.int (a * 15))], [.int (σ 26 (Int32.toNatClampNeg ((a * 15) + 1))), .ref 19], (s2 σ 19 0 (σ 26 (Int32.toNatClampNeg (a * 15)))))) (q' := (48, [some (.ref 25), some (.int a), some (.ref 19), some (.int (a * 15))], [.int ((a * 15) + 2), .ref 26, .ref 19], (s2 (s2 σ 19 0 (σ 26 (Int32.toNatClampNeg (a * 15)))) 19 1 (σ 26 (Int32.toNatClampNeg ((a * 15) + 1)))))) rfl ?_
      obtain ⟨hb3, h⟩ := h
      refine PW.iald (n := 30) (ins_l hw_48 rfl) rfl (idx_in hb3.1 hb3.2).1 ?_
      refine PW.runs hw_48 rfl 7 (q := (49, [some (.ref 25), some (.int a), some (.ref 19), some (.int (a * 15))], [.int (σ 26 (Int32.toNatClampNeg ((a * 15) + 2))), .ref 19], (s2 (s2 σ 19 0 (σ 26 (Int32.toNatClampNeg (a * 15)))) 19 1 (σ 26 (Int32.toNatClampNeg ((a * 15) + 1)))))) (q' := (60, [some (.ref 25), some (.int a), some (.ref 19), some (.int (a * 15))], [.int ((a * 15) + 3), .ref 26, .ref 19], (s2 (s2 (s2 σ 19 0 (σ 26 (Int32.toNatClampNeg (a * 15)))) 19 1 (σ 26 (Int32.toNatClampNeg ((a * 15) + 1)))) 19 2 (σ 26 (Int32.toNatClampNeg ((a * 15) + 2)))))) rfl ?_
      obtain ⟨hb4, h⟩ := h
      refine PW.iald (n := 30) (ins_l hw_48 rfl) rfl (idx_in hb4.1 hb4.2).1 ?_
      refine PW.runs hw_48 rfl 7 (q := (61, [some (.ref 25), some (.int a), some (.ref 19), some (.int (a * 15))], [.int (σ 26 (Int32.toNatClampNeg ((a * 15) + 3))), .ref 19], (s2 (s2 (s2 σ 19 0 (σ 26 (Int32.toNatClampNeg (a * 15)))) 19 1 (σ 26 (Int32.toNatClampNeg ((a * 15) + 1)))) 19 2 (σ 26 (Int32.toNatClampNeg ((a * 15) + 2)))))) (q' := (72, [some (.ref 25), some (.int a), some (.ref 19), some (.int (a * 15))], [.int ((a * 15) + 4), .ref 26, .ref 19], (s2 (s2 (s2 (s2 σ 19 0 (σ 26 (Int32.toNatClampNeg (a * 15)))) 19 1 (σ 26 (Int32.toNatClampNeg ((a * 15) + 1)))) 19 2 (σ 26 (Int32.toNatClampNeg ((a * 15) + 2)))) 19 3 (σ 26 (Int32.toNatClampNeg ((a * 15) + 3)))))) rfl ?_
      obtain ⟨hb5, h⟩ := h
      refine PW.iald (n := 30) (ins_l hw_48 rfl) rfl (idx_in hb5.1 hb5.2).1 ?_
      refine PW.runs hw_48 rfl 10 (q := (73, [some (.ref 25), some (.int a), some (.ref 19), some (.int (a * 15))], [.int (σ 26 (Int32.toNatClampNeg ((a * 15) + 4))), .ref 19], (s2 (s2 (s2 (s2 σ 19 0 (σ 26 (Int32.toNatClampNeg (a * 15)))) 19 1 (σ 26 (Int32.toNatClampNeg ((a * 15) + 1)))) 19 2 (σ 26 (Int32.toNatClampNeg ((a * 15) + 2)))) 19 3 (σ 26 (Int32.toNatClampNeg ((a * 15) + 3)))))) (q' := (89, [some (.ref 25), some (.int a), some (.ref 19), some (.int (a * 15))], [.int 5, .int 0, .ref 20, .int ((a * 15) + 5), .ref 26], (s2 (s2 (s2 (s2 (s2 σ 19 0 (σ 26 (Int32.toNatClampNeg (a * 15)))) 19 1 (σ 26 (Int32.toNatClampNeg ((a * 15) + 1)))) 19 2 (σ 26 (Int32.toNatClampNeg ((a * 15) + 2)))) 19 3 (σ 26 (Int32.toNatClampNeg ((a * 15) + 3)))) 19 4 (σ 26 (Int32.toNatClampNeg ((a * 15) + 4)))))) rfl ?_
      obtain ⟨hb, h⟩ := h
      refine PW.copyC (na := 30) (nb := 5) (ins_l hw_48 rfl) rfl rfl rfl hb (Nat.le_of_ble_eq_true rfl) ?_
      refine PW.runs hw_48 rfl 9 (q := (92, [some (.ref 25), some (.int a), some (.ref 19), some (.int (a * 15))], [], (sr (s2 (s2 (s2 (s2 (s2 σ 19 0 (σ 26 (Int32.toNatClampNeg (a * 15)))) 19 1 (σ 26 (Int32.toNatClampNeg ((a * 15) + 1)))) 19 2 (σ 26 (Int32.toNatClampNeg ((a * 15) + 2)))) 19 3 (σ 26 (Int32.toNatClampNeg ((a * 15) + 3)))) 19 4 (σ 26 (Int32.toNatClampNeg ((a * 15) + 4)))) 20 (va_cpy (σ 26) (σ 20) (Int32.toNatClampNeg ((a * 15) + 5)) 0 5)))) (q' := (106, [some (.ref 25), some (.int a), some (.ref 19), some (.int (a * 15))], [.int 5, .int 0, .ref 21, .int ((a * 15) + 10), .ref 26], (sr (s2 (s2 (s2 (s2 (s2 σ 19 0 (σ 26 (Int32.toNatClampNeg (a * 15)))) 19 1 (σ 26 (Int32.toNatClampNeg ((a * 15) + 1)))) 19 2 (σ 26 (Int32.toNatClampNeg ((a * 15) + 2)))) 19 3 (σ 26 (Int32.toNatClampNeg ((a * 15) + 3)))) 19 4 (σ 26 (Int32.toNatClampNeg ((a * 15) + 4)))) 20 (va_cpy (σ 26) (σ 20) (Int32.toNatClampNeg ((a * 15) + 5)) 0 5)))) rfl ?_
      obtain ⟨hb, h⟩ := h
      refine PW.copyC (na := 30) (nb := 5) (ins_l hw_48 rfl) rfl rfl rfl hb (Nat.le_of_ble_eq_true rfl) ?_
      exact PW.vret (ins_l hw_48 rfl) rfl ⟨rfl, h⟩
    · replace h := (if_neg (c_ltF hc2)).mp h
      exact PW.vret (ins_l hw_48 rfl) rfl ⟨rfl, h⟩
theorem hw_189 : pins.getD 189 [] = pi_189 := rfl
/-! MapDutyModel.keep.(I)I -/
set_option maxRecDepth 20000 in
theorem w_189 {a : Int32} {σ : St} {K : Int32 → St → Prop} (h : CI 109 [.long (Int32.toInt64 a), .long 0, .long 1] σ (fun v1 σ1 => (if v1 = 0 then K (-1000000001) σ1 else PI 189 15 [some (.ref 39), some (.int a), some (.int 0)] [] σ1 K))) : CI 189 [.ref 39, .int a] σ K := by
  show PW none 189 0 [some (.ref 39), some (.int a), none] [] σ _
  refine PW.runs hw_189 rfl 4 (q := (0, [some (.ref 39), some (.int a), none], [], σ)) (q' := (4, [some (.ref 39), some (.int a), none], [.long 1, .long 0, .long (Int32.toInt64 a)], σ)) rfl ?_
  refine PW.callS (vs := [.long (Int32.toInt64 a), .long 0, .long 1]) (rest := []) (ins_l hw_189 rfl) rfl (Or.inl rfl) rfl (Nat.le_of_ble_eq_true rfl) (Nat.le_of_ble_eq_true rfl) (PW.mono h ?_)
  rintro _ σ1 ⟨v1, rfl, h⟩
  show PW none 189 7 [some (.ref 39), some (.int a), none] [.int v1] σ1 _
  refine PW.ifc (t := 13) (ins_l hw_189 rfl) rfl (fun hc1 => ?_) (fun hc1 => ?_)
  · replace h := (if_neg (c_neT hc1)).mp h
    refine PW.runs hw_189 rfl 2 (q := (13, [some (.ref 39), some (.int a), none], [], σ1)) (q' := (15, [some (.ref 39), some (.int a), some (.int 0)], [], σ1)) rfl ?_
    exact h
  · replace h := (if_pos (c_neF hc1)).mp h
    refine PW.runs hw_189 rfl 1 (q := (10, [some (.ref 39), some (.int a), none], [], σ1)) (q' := (12, [some (.ref 39), some (.int a), none], [.int (-1000000001)], σ1)) rfl ?_
    exact PW.iret (ins_l hw_189 rfl) (Or.inl rfl) ⟨_, rfl, h⟩
set_option maxRecDepth 20000 in
theorem w_189_15 {a : Int32} {x2 : Int32} {σ : St} {K : Int32 → St → Prop} (h : (if 14 ≤ x2 then ((0 ≤ ((15 * a) + 14).toInt ∧ ((15 * a) + 14).toInt < 30) ∧ ((0 ≤ a.toInt ∧ a.toInt < 2) ∧ K 1 (s2 (s2 (s2 σ 61 (Int32.toNatClampNeg ((15 * a) + 14)) (σ 39 12)) 62 (Int32.toNatClampNeg a) (vp_nar .boolean 1)) 39 32 0))) else ((0 ≤ x2.toInt ∧ x2.toInt < 14) ∧ ((0 ≤ ((15 * a) + x2).toInt ∧ ((15 * a) + x2).toInt < 30) ∧ PI 189 15 [some (.ref 39), some (.int a), some (.int (x2 + 1))] [] (s2 σ 61 (Int32.toNatClampNeg ((15 * a) + x2)) (σ 46 (Int32.toNatClampNeg x2))) K)))) : PI 189 15 [some (.ref 39), some (.int a), some (.int x2)] [] σ K := by
  show PW none 189 15 [some (.ref 39), some (.int a), some (.int x2)] [] σ _
  refine PW.runs hw_189 rfl 2 (q := (15, [some (.ref 39), some (.int a), some (.int x2)], [], σ)) (q' := (18, [some (.ref 39), some (.int a), some (.int x2)], [.int 14, .int x2], σ)) rfl ?_
  refine PW.icm (t := 44) (ins_l hw_189 rfl) rfl (fun hc1 => ?_) (fun hc1 => ?_)
  · replace h := (if_pos (c_geT hc1)).mp h
    refine PW.runs hw_189 rfl 9 (q := (44, [some (.ref 39), some (.int a), some (.int x2)], [], σ)) (q' := (59, [some (.ref 39), some (.int a), some (.int x2)], [.int (σ 39 12), .int ((15 * a) + 14), .ref 61], σ)) rfl ?_
    obtain ⟨hb1, h⟩ := h
    refine PW.iast (n := 30) (ins_l hw_189 rfl) rfl (idx_in hb1.1 hb1.2).1 ?_
    refine PW.runs hw_189 rfl 4 (q := (60, [some (.ref 39), some (.int a), some (.int x2)], [], (s2 σ 61 (Int32.toNatClampNeg ((15 * a) + 14)) (σ 39 12)))) (q' := (66, [some (.ref 39), some (.int a), some (.int x2)], [.int 1, .int a, .ref 62], (s2 σ 61 (Int32.toNatClampNeg ((15 * a) + 14)) (σ 39 12)))) rfl ?_
    obtain ⟨hb2, h⟩ := h
    refine PW.bast (n := 2) (ins_l hw_189 rfl) rfl (idx_in hb2.1 hb2.2).1 ?_
    refine PW.runs hw_189 rfl 4 (q := (67, [some (.ref 39), some (.int a), some (.int x2)], [], (s2 (s2 σ 61 (Int32.toNatClampNeg ((15 * a) + 14)) (σ 39 12)) 62 (Int32.toNatClampNeg a) (vp_nar .boolean 1)))) (q' := (73, [some (.ref 39), some (.int a), some (.int x2)], [.int 1], (s2 (s2 (s2 σ 61 (Int32.toNatClampNeg ((15 * a) + 14)) (σ 39 12)) 62 (Int32.toNatClampNeg a) (vp_nar .boolean 1)) 39 32 0))) rfl ?_
    exact PW.iret (ins_l hw_189 rfl) (Or.inl rfl) ⟨_, rfl, h⟩
  · replace h := (if_neg (c_geF hc1)).mp h
    refine PW.runs hw_189 rfl 10 (q := (21, [some (.ref 39), some (.int a), some (.int x2)], [], σ)) (q' := (36, [some (.ref 39), some (.int a), some (.int x2)], [.int x2, .ref 46, .int ((15 * a) + x2), .ref 61], σ)) rfl ?_
    obtain ⟨hb1, h⟩ := h
    refine PW.iald (n := 14) (ins_l hw_189 rfl) rfl (idx_in hb1.1 hb1.2).1 ?_
    obtain ⟨hb2, h⟩ := h
    refine PW.iast (n := 30) (ins_l hw_189 rfl) rfl (idx_in hb2.1 hb2.2).1 ?_
    refine PW.runs hw_189 rfl 2 (q := (38, [some (.ref 39), some (.int a), some (.int x2)], [], (s2 σ 61 (Int32.toNatClampNeg ((15 * a) + x2)) (σ 46 (Int32.toNatClampNeg x2))))) (q' := (15, [some (.ref 39), some (.int a), some (.int (x2 + 1))], [], (s2 σ 61 (Int32.toNatClampNeg ((15 * a) + x2)) (σ 46 (Int32.toNatClampNeg x2))))) rfl ?_
    exact h
theorem hw_190 : pins.getD 190 [] = pi_190 := rfl
/-! MapDutyModel.goBack.(I)I -/
set_option maxRecDepth 20000 in
theorem w_190 {a : Int32} {σ : St} {K : Int32 → St → Prop} (h : CI 109 [.long (Int32.toInt64 a), .long 0, .long 1] σ (fun v1 σ1 => (if v1 = 0 then K (-1000000001) σ1 else ((0 ≤ a.toInt ∧ a.toInt < 2) ∧ (if (σ1 62 (Int32.toNatClampNeg a)) = 0 then K (-1000000003) σ1 else PI 190 28 [some (.ref 39), some (.int a), some (.int 0)] [] σ1 K))))) : CI 190 [.ref 39, .int a] σ K := by
  show PW none 190 0 [some (.ref 39), some (.int a), none] [] σ _
  refine PW.runs hw_190 rfl 4 (q := (0, [some (.ref 39), some (.int a), none], [], σ)) (q' := (4, [some (.ref 39), some (.int a), none], [.long 1, .long 0, .long (Int32.toInt64 a)], σ)) rfl ?_
  refine PW.callS (vs := [.long (Int32.toInt64 a), .long 0, .long 1]) (rest := []) (ins_l hw_190 rfl) rfl (Or.inl rfl) rfl (Nat.le_of_ble_eq_true rfl) (Nat.le_of_ble_eq_true rfl) (PW.mono h ?_)
  rintro _ σ1 ⟨v1, rfl, h⟩
  show PW none 190 7 [some (.ref 39), some (.int a), none] [.int v1] σ1 _
  refine PW.ifc (t := 13) (ins_l hw_190 rfl) rfl (fun hc1 => ?_) (fun hc1 => ?_)
  · replace h := (if_neg (c_neT hc1)).mp h
    refine PW.runs hw_190 rfl 3 (q := (13, [some (.ref 39), some (.int a), none], [], σ1)) (q' := (18, [some (.ref 39), some (.int a), none], [.int a, .ref 62], σ1)) rfl ?_
    obtain ⟨hb1, h⟩ := h
    refine PW.bald (n := 2) (ins_l hw_190 rfl) rfl (idx_in hb1.1 hb1.2).1 ?_
    refine PW.ifc (t := 26) (ins_l hw_190 rfl) rfl (fun hc2 => ?_) (fun hc2 => ?_)
    · replace h := (if_neg (c_neT hc2)).mp h
      refine PW.runs hw_190 rfl 2 (q := (26, [some (.ref 39), some (.int a), none], [], σ1)) (q' := (28, [some (.ref 39), some (.int a), some (.int 0)], [], σ1)) rfl ?_
      exact h
    · replace h := (if_pos (c_neF hc2)).mp h
      refine PW.runs hw_190 rfl 1 (q := (22, [some (.ref 39), some (.int a), none], [], σ1)) (q' := (25, [some (.ref 39), some (.int a), none], [.int (-1000000003)], σ1)) rfl ?_
      exact PW.iret (ins_l hw_190 rfl) (Or.inl rfl) ⟨_, rfl, h⟩
  · replace h := (if_pos (c_neF hc1)).mp h
    refine PW.runs hw_190 rfl 1 (q := (10, [some (.ref 39), some (.int a), none], [], σ1)) (q' := (12, [some (.ref 39), some (.int a), none], [.int (-1000000001)], σ1)) rfl ?_
    exact PW.iret (ins_l hw_190 rfl) (Or.inl rfl) ⟨_, rfl, h⟩
set_option maxRecDepth 20000 in
theorem w_190_28 {a : Int32} {x2 : Int32} {σ : St} {K : Int32 → St → Prop} (h : (if 14 ≤ x2 then ((0 ≤ ((15 * a) + 14).toInt ∧ ((15 * a) + 14).toInt < 30) ∧ K 1 (s2 (s2 σ 39 12 (σ 61 (Int32.toNatClampNeg ((15 * a) + 14)))) 39 32 0)) else ((0 ≤ ((15 * a) + x2).toInt ∧ ((15 * a) + x2).toInt < 30) ∧ ((0 ≤ x2.toInt ∧ x2.toInt < 14) ∧ PI 190 28 [some (.ref 39), some (.int a), some (.int (x2 + 1))] [] (s2 σ 46 (Int32.toNatClampNeg x2) (σ 61 (Int32.toNatClampNeg ((15 * a) + x2)))) K)))) : PI 190 28 [some (.ref 39), some (.int a), some (.int x2)] [] σ K := by
  show PW none 190 28 [some (.ref 39), some (.int a), some (.int x2)] [] σ _
  refine PW.runs hw_190 rfl 2 (q := (28, [some (.ref 39), some (.int a), some (.int x2)], [], σ)) (q' := (31, [some (.ref 39), some (.int a), some (.int x2)], [.int 14, .int x2], σ)) rfl ?_
  refine PW.icm (t := 57) (ins_l hw_190 rfl) rfl (fun hc1 => ?_) (fun hc1 => ?_)
  · replace h := (if_pos (c_geT hc1)).mp h
    refine PW.runs hw_190 rfl 8 (q := (57, [some (.ref 39), some (.int a), some (.int x2)], [], σ)) (q' := (69, [some (.ref 39), some (.int a), some (.int x2)], [.int ((15 * a) + 14), .ref 61, .ref 39], σ)) rfl ?_
    obtain ⟨hb1, h⟩ := h
    refine PW.iald (n := 30) (ins_l hw_190 rfl) rfl (idx_in hb1.1 hb1.2).1 ?_
    refine PW.runs hw_190 rfl 5 (q := (70, [some (.ref 39), some (.int a), some (.int x2)], [.int (σ 61 (Int32.toNatClampNeg ((15 * a) + 14))), .ref 39], σ)) (q' := (79, [some (.ref 39), some (.int a), some (.int x2)], [.int 1], (s2 (s2 σ 39 12 (σ 61 (Int32.toNatClampNeg ((15 * a) + 14)))) 39 32 0))) rfl ?_
    exact PW.iret (ins_l hw_190 rfl) (Or.inl rfl) ⟨_, rfl, h⟩
  · replace h := (if_neg (c_geF hc1)).mp h
    refine PW.runs hw_190 rfl 10 (q := (34, [some (.ref 39), some (.int a), some (.int x2)], [], σ)) (q' := (49, [some (.ref 39), some (.int a), some (.int x2)], [.int ((15 * a) + x2), .ref 61, .int x2, .ref 46], σ)) rfl ?_
    obtain ⟨hb1, h⟩ := h
    refine PW.iald (n := 30) (ins_l hw_190 rfl) rfl (idx_in hb1.1 hb1.2).1 ?_
    obtain ⟨hb2, h⟩ := h
    refine PW.iast (n := 14) (ins_l hw_190 rfl) rfl (idx_in hb2.1 hb2.2).1 ?_
    refine PW.runs hw_190 rfl 2 (q := (51, [some (.ref 39), some (.int a), some (.int x2)], [], (s2 σ 46 (Int32.toNatClampNeg x2) (σ 61 (Int32.toNatClampNeg ((15 * a) + x2)))))) (q' := (28, [some (.ref 39), some (.int a), some (.int (x2 + 1))], [], (s2 σ 46 (Int32.toNatClampNeg x2) (σ 61 (Int32.toNatClampNeg ((15 * a) + x2)))))) rfl ?_
    exact h
