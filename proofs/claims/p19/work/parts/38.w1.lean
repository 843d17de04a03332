/-! the reader's code -/
theorem hw_34 : pins.getD 34 [] = pi_34 := rfl
/-! MapDuty$Reader.letterHere.()I -/
set_option maxRecDepth 20000 in
theorem w_34  {σ : St} {K : Int32 → St → Prop} (h : (if (σ 1 4) < 0 then K (-1) σ else (if (σ 1 1) ≤ (σ 1 4) then K (-1) σ else (if 240 ≤ (σ 1 4) then K (-1) σ else ((0 ≤ (σ 1 4).toInt ∧ (σ 1 4).toInt < 240) ∧ K (σ 2 (Int32.toNatClampNeg (σ 1 4))) σ))))) : CI 34 [.ref 1] σ K := by
  show PW none 34 0 [some (.ref 1)] [] σ _
  refine PW.runs hw_34 rfl 2 (q := (0, [some (.ref 1)], [], σ)) (q' := (4, [some (.ref 1)], [.int (σ 1 4)], σ)) rfl ?_
  refine PW.ifc (t := 40) (ins_l hw_34 rfl) rfl (fun hc1 => ?_) (fun hc1 => ?_)
  · replace h := (if_pos (c_ltT hc1)).mp h
    refine PW.runs hw_34 rfl 1 (q := (40, [some (.ref 1)], [], σ)) (q' := (41, [some (.ref 1)], [.int (-1)], σ)) rfl ?_
    exact PW.iret (ins_l hw_34 rfl) (Or.inl rfl) ⟨_, rfl, h⟩
  · replace h := (if_neg (c_ltF hc1)).mp h
    refine PW.runs hw_34 rfl 4 (q := (7, [some (.ref 1)], [], σ)) (q' := (15, [some (.ref 1)], [.int (σ 1 1), .int (σ 1 4)], σ)) rfl ?_
    refine PW.icm (t := 40) (ins_l hw_34 rfl) rfl (fun hc2 => ?_) (fun hc2 => ?_)
    · replace h := (if_pos (c_geT hc2)).mp h
      refine PW.runs hw_34 rfl 1 (q := (40, [some (.ref 1)], [], σ)) (q' := (41, [some (.ref 1)], [.int (-1)], σ)) rfl ?_
      exact PW.iret (ins_l hw_34 rfl) (Or.inl rfl) ⟨_, rfl, h⟩
    · replace h := (if_neg (c_geF hc2)).mp h
      refine PW.runs hw_34 rfl 3 (q := (18, [some (.ref 1)], [], σ)) (q' := (25, [some (.ref 1)], [.int 240, .int (σ 1 4)], σ)) rfl ?_
      refine PW.icm (t := 40) (ins_l hw_34 rfl) rfl (fun hc3 => ?_) (fun hc3 => ?_)
      · replace h := (if_pos (c_geT hc3)).mp h
        refine PW.runs hw_34 rfl 1 (q := (40, [some (.ref 1)], [], σ)) (q' := (41, [some (.ref 1)], [.int (-1)], σ)) rfl ?_
        exact PW.iret (ins_l hw_34 rfl) (Or.inl rfl) ⟨_, rfl, h⟩
      · replace h := (if_neg (c_geF hc3)).mp h
        refine PW.runs hw_34 rfl 4 (q := (28, [some (.ref 1)], [], σ)) (q' := (36, [some (.ref 1)], [.int (σ 1 4), .ref 2], σ)) rfl ?_
        obtain ⟨hb1, h⟩ := h
        refine PW.iald (n := 240) (ins_l hw_34 rfl) rfl (idx_in hb1.1 hb1.2).1 ?_
        refine PW.runs hw_34 rfl 1 (q := (37, [some (.ref 1)], [.int (σ 2 (Int32.toNatClampNeg (σ 1 4)))], σ)) (q' := (41, [some (.ref 1)], [.int (σ 2 (Int32.toNatClampNeg (σ 1 4)))], σ)) rfl ?_
        exact PW.iret (ins_l hw_34 rfl) (Or.inl rfl) ⟨_, rfl, h⟩
theorem hw_33 : pins.getD 33 [] = pi_33 := rfl
/-! MapDuty$Reader.passBlanks.()V -/
set_option maxRecDepth 20000 in
theorem w_33  {σ : St} {K : St → Prop} (h : (if (σ 1 1) ≤ (σ 1 4) then K σ else CI 34 [.ref 1] σ (fun v1 σ1 => (if v1 = 32 then PV 33 0 [some (.ref 1)] [] (s2 σ1 1 4 ((σ1 1 4) + 1)) K else K σ1)))) : PV 33 0 [some (.ref 1)] [] σ K := by
  show PW none 33 0 [some (.ref 1)] [] σ _
  refine PW.runs hw_33 rfl 4 (q := (0, [some (.ref 1)], [], σ)) (q' := (8, [some (.ref 1)], [.int (σ 1 1), .int (σ 1 4)], σ)) rfl ?_
  refine PW.icm (t := 33) (ins_l hw_33 rfl) rfl (fun hc1 => ?_) (fun hc1 => ?_)
  · replace h := (if_pos (c_geT hc1)).mp h
    exact PW.vret (ins_l hw_33 rfl) rfl ⟨rfl, h⟩
  · replace h := (if_neg (c_geF hc1)).mp h
    refine PW.runs hw_33 rfl 1 (q := (11, [some (.ref 1)], [], σ)) (q' := (12, [some (.ref 1)], [.ref 1], σ)) rfl ?_
    refine PW.callV (b := 1) (vs := []) (rest := []) (ins_l hw_33 rfl) rfl rfl rfl (Nat.le_of_ble_eq_true rfl) (Nat.le_of_ble_eq_true rfl) (PW.mono h ?_)
    rintro _ σ1 ⟨v1, rfl, h⟩
    show PW none 33 15 [some (.ref 1)] [.int v1] σ1 _
    refine PW.runs hw_33 rfl 1 (q := (15, [some (.ref 1)], [.int v1], σ1)) (q' := (17, [some (.ref 1)], [.int 32, .int v1], σ1)) rfl ?_
    refine PW.icm (t := 33) (ins_l hw_33 rfl) rfl (fun hc2 => ?_) (fun hc2 => ?_)
    · replace h := (if_neg (c_neT hc2)).mp h
      exact PW.vret (ins_l hw_33 rfl) rfl ⟨rfl, h⟩
    · replace h := (if_pos (c_neF hc2)).mp h
      refine PW.runs hw_33 rfl 7 (q := (20, [some (.ref 1)], [], σ1)) (q' := (0, [some (.ref 1)], [], (s2 σ1 1 4 ((σ1 1 4) + 1)))) rfl ?_
      exact h
theorem hw_35 : pins.getD 35 [] = pi_35 := rfl
/-! MapDuty$Reader.isFigure.(I)Z -/
set_option maxRecDepth 20000 in
theorem w_35 {a : Int32} {σ : St} {K : Int32 → St → Prop} (h : (if a < 48 then K 0 σ else (if 57 < a then K 0 σ else K 1 σ))) : CI 35 [.int a] σ K := by
  show PW none 35 0 [some (.int a)] [] σ _
  refine PW.runs hw_35 rfl 2 (q := (0, [some (.int a)], [], σ)) (q' := (3, [some (.int a)], [.int 48, .int a], σ)) rfl ?_
  refine PW.icm (t := 16) (ins_l hw_35 rfl) rfl (fun hc1 => ?_) (fun hc1 => ?_)
  · replace h := (if_pos (c_ltT hc1)).mp h
    refine PW.runs hw_35 rfl 1 (q := (16, [some (.int a)], [], σ)) (q' := (17, [some (.int a)], [.int 0], σ)) rfl ?_
    exact PW.iret (ins_l hw_35 rfl) (Or.inr ⟨rfl, by decide⟩) ⟨_, rfl, h⟩
  · replace h := (if_neg (c_ltF hc1)).mp h
    refine PW.runs hw_35 rfl 2 (q := (6, [some (.int a)], [], σ)) (q' := (9, [some (.int a)], [.int 57, .int a], σ)) rfl ?_
    refine PW.icm (t := 16) (ins_l hw_35 rfl) rfl (fun hc2 => ?_) (fun hc2 => ?_)
    · replace h := (if_pos (c_gtT hc2)).mp h
      refine PW.runs hw_35 rfl 1 (q := (16, [some (.int a)], [], σ)) (q' := (17, [some (.int a)], [.int 0], σ)) rfl ?_
      exact PW.iret (ins_l hw_35 rfl) (Or.inr ⟨rfl, by decide⟩) ⟨_, rfl, h⟩
    · replace h := (if_neg (c_gtF hc2)).mp h
      refine PW.runs hw_35 rfl 2 (q := (12, [some (.int a)], [], σ)) (q' := (17, [some (.int a)], [.int 1], σ)) rfl ?_
      exact PW.iret (ins_l hw_35 rfl) (Or.inr ⟨rfl, by decide⟩) ⟨_, rfl, h⟩
theorem hw_36 : pins.getD 36 [] = pi_36 := rfl
/-! MapDuty$Reader.spoil.(II)V -/
set_option maxRecDepth 20000 in
theorem w_36 {a : Int32} {b : Int32} {σ : St} {K : St → Prop} (h : (if (σ 1 3) = 0 then K (s2 (s2 σ 1 3 a) 1 2 b) else K σ)) : CV 36 [.ref 1, .int a, .int b] σ K := by
  show PW none 36 0 [some (.ref 1), some (.int a), some (.int b)] [] σ _
  refine PW.runs hw_36 rfl 2 (q := (0, [some (.ref 1), some (.int a), some (.int b)], [], σ)) (q' := (4, [some (.ref 1), some (.int a), some (.int b)], [.int (σ 1 3)], σ)) rfl ?_
  refine PW.ifc (t := 17) (ins_l hw_36 rfl) rfl (fun hc1 => ?_) (fun hc1 => ?_)
  · replace h := (if_neg (c_neT hc1)).mp h
    exact PW.vret (ins_l hw_36 rfl) rfl ⟨rfl, h⟩
  · replace h := (if_pos (c_neF hc1)).mp h
    refine PW.runs hw_36 rfl 6 (q := (7, [some (.ref 1), some (.int a), some (.int b)], [], σ)) (q' := (17, [some (.ref 1), some (.int a), some (.int b)], [], (s2 (s2 σ 1 3 a) 1 2 b))) rfl ?_
    exact PW.vret (ins_l hw_36 rfl) rfl ⟨rfl, h⟩
theorem hw_31 : pins.getD 31 [] = pi_31 := rfl
/-! MapDuty$Reader.number.(II)I -/
set_option maxRecDepth 20000 in
theorem w_31 {a : Int32} {b : Int32} {σ : St} {K : Int32 → St → Prop} (h : CV 33 [.ref 1] σ (fun σ1 => CI 34 [.ref 1] (s2 σ1 1 5 (σ1 1 4)) (fun v2 σ2 => CI 35 [.int v2] σ2 (fun v3 σ3 => (if v3 = 0 then CV 36 [.ref 1, .int 1, .int (σ3 1 4)] σ3 (fun σ4 => K 0 σ4) else PI 31 35 [some (.ref 1), some (.int a), some (.int b), some (.int 0)] [] σ3 K))))) : CI 31 [.ref 1, .int a, .int b] σ K := by
  show PW none 31 0 [some (.ref 1), some (.int a), some (.int b), none] [] σ _
  refine PW.runs hw_31 rfl 1 (q := (0, [some (.ref 1), some (.int a), some (.int b), none], [], σ)) (q' := (1, [some (.ref 1), some (.int a), some (.int b), none], [.ref 1], σ)) rfl ?_
  refine PW.callV (b := 1) (vs := []) (rest := []) (ins_l hw_31 rfl) rfl rfl rfl (Nat.le_of_ble_eq_true rfl) (Nat.le_of_ble_eq_true rfl) (PW.mono h ?_)
  rintro _ σ1 ⟨rfl, h⟩
  show PW none 31 4 [some (.ref 1), some (.int a), some (.int b), none] [] σ1 _
  refine PW.runs hw_31 rfl 5 (q := (4, [some (.ref 1), some (.int a), some (.int b), none], [], σ1)) (q' := (13, [some (.ref 1), some (.int a), some (.int b), none], [.ref 1], (s2 σ1 1 5 (σ1 1 4)))) rfl ?_
  refine PW.callV (b := 1) (vs := []) (rest := []) (ins_l hw_31 rfl) rfl rfl rfl (Nat.le_of_ble_eq_true rfl) (Nat.le_of_ble_eq_true rfl) (PW.mono h ?_)
  rintro _ σ2 ⟨v2, rfl, h⟩
  show PW none 31 16 [some (.ref 1), some (.int a), some (.int b), none] [.int v2] σ2 _
  refine PW.callS (vs := [.int v2]) (rest := []) (ins_l hw_31 rfl) rfl (Or.inl rfl) rfl (Nat.le_of_ble_eq_true rfl) (Nat.le_of_ble_eq_true rfl) (PW.mono h ?_)
  rintro _ σ3 ⟨v3, rfl, h⟩
  show PW none 31 19 [some (.ref 1), some (.int a), some (.int b), none] [.int v3] σ3 _
  refine PW.ifc (t := 33) (ins_l hw_31 rfl) rfl (fun hc1 => ?_) (fun hc1 => ?_)
  · replace h := (if_neg (c_neT hc1)).mp h
    refine PW.runs hw_31 rfl 2 (q := (33, [some (.ref 1), some (.int a), some (.int b), none], [], σ3)) (q' := (35, [some (.ref 1), some (.int a), some (.int b), some (.int 0)], [], σ3)) rfl ?_
    exact h
  · replace h := (if_pos (c_neF hc1)).mp h
    refine PW.runs hw_31 rfl 4 (q := (22, [some (.ref 1), some (.int a), some (.int b), none], [], σ3)) (q' := (28, [some (.ref 1), some (.int a), some (.int b), none], [.int (σ3 1 4), .int 1, .ref 1], σ3)) rfl ?_
    refine PW.callV (b := 1) (vs := [.int 1, .int (σ3 1 4)]) (rest := []) (ins_l hw_31 rfl) rfl rfl rfl (Nat.le_of_ble_eq_true rfl) (Nat.le_of_ble_eq_true rfl) (PW.mono h ?_)
    rintro _ σ4 ⟨rfl, h⟩
    show PW none 31 31 [some (.ref 1), some (.int a), some (.int b), none] [] σ4 _
    refine PW.runs hw_31 rfl 1 (q := (31, [some (.ref 1), some (.int a), some (.int b), none], [], σ4)) (q' := (32, [some (.ref 1), some (.int a), some (.int b), none], [.int 0], σ4)) rfl ?_
    exact PW.iret (ins_l hw_31 rfl) (Or.inl rfl) ⟨_, rfl, h⟩
set_option maxRecDepth 20000 in
theorem w_31_35 {a : Int32} {b : Int32} {x3 : Int32} {σ : St} {K : Int32 → St → Prop} (h : (if (σ 1 1) ≤ (σ 1 4) then PI 31 95 [some (.ref 1), some (.int a), some (.int b), some (.int x3)] [] σ K else CI 34 [.ref 1] σ (fun v1 σ1 => CI 35 [.int v1] σ1 (fun v2 σ2 => (if v2 = 0 then PI 31 95 [some (.ref 1), some (.int a), some (.int b), some (.int x3)] [] σ2 K else (if 3 ≤ ((σ2 1 4) - (σ2 1 5)) then PI 31 35 [some (.ref 1), some (.int a), some (.int b), some (.int x3)] [] (s2 σ2 1 4 ((σ2 1 4) + 1)) K else CI 34 [.ref 1] σ2 (fun v3 σ3 => PI 31 35 [some (.ref 1), some (.int a), some (.int b), some (.int (((x3 * 10) + v3) - 48))] [] (s2 σ3 1 4 ((σ3 1 4) + 1)) K))))))) : PI 31 35 [some (.ref 1), some (.int a), some (.int b), some (.int x3)] [] σ K := by
  show PW none 31 35 [some (.ref 1), some (.int a), some (.int b), some (.int x3)] [] σ _
  refine PW.runs hw_31 rfl 4 (q := (35, [some (.ref 1), some (.int a), some (.int b), some (.int x3)], [], σ)) (q' := (43, [some (.ref 1), some (.int a), some (.int b), some (.int x3)], [.int (σ 1 1), .int (σ 1 4)], σ)) rfl ?_
  refine PW.icm (t := 95) (ins_l hw_31 rfl) rfl (fun hc1 => ?_) (fun hc1 => ?_)
  · replace h := (if_pos (c_geT hc1)).mp h
    exact h
  · replace h := (if_neg (c_geF hc1)).mp h
    refine PW.runs hw_31 rfl 1 (q := (46, [some (.ref 1), some (.int a), some (.int b), some (.int x3)], [], σ)) (q' := (47, [some (.ref 1), some (.int a), some (.int b), some (.int x3)], [.ref 1], σ)) rfl ?_
    refine PW.callV (b := 1) (vs := []) (rest := []) (ins_l hw_31 rfl) rfl rfl rfl (Nat.le_of_ble_eq_true rfl) (Nat.le_of_ble_eq_true rfl) (PW.mono h ?_)
    rintro _ σ1 ⟨v1, rfl, h⟩
    show PW none 31 50 [some (.ref 1), some (.int a), some (.int b), some (.int x3)] [.int v1] σ1 _
    refine PW.callS (vs := [.int v1]) (rest := []) (ins_l hw_31 rfl) rfl (Or.inl rfl) rfl (Nat.le_of_ble_eq_true rfl) (Nat.le_of_ble_eq_true rfl) (PW.mono h ?_)
    rintro _ σ2 ⟨v2, rfl, h⟩
    show PW none 31 53 [some (.ref 1), some (.int a), some (.int b), some (.int x3)] [.int v2] σ2 _
    refine PW.ifc (t := 95) (ins_l hw_31 rfl) rfl (fun hc2 => ?_) (fun hc2 => ?_)
    · replace h := (if_pos (c_eqT hc2)).mp h
      exact h
    · replace h := (if_neg (c_eqF hc2)).mp h
      refine PW.runs hw_31 rfl 6 (q := (56, [some (.ref 1), some (.int a), some (.int b), some (.int x3)], [], σ2)) (q' := (66, [some (.ref 1), some (.int a), some (.int b), some (.int x3)], [.int 3, .int ((σ2 1 4) - (σ2 1 5))], σ2)) rfl ?_
      refine PW.icm (t := 82) (ins_l hw_31 rfl) rfl (fun hc3 => ?_) (fun hc3 => ?_)
      · replace h := (if_pos (c_geT hc3)).mp h
        refine PW.runs hw_31 rfl 7 (q := (82, [some (.ref 1), some (.int a), some (.int b), some (.int x3)], [], σ2)) (q' := (35, [some (.ref 1), some (.int a), some (.int b), some (.int x3)], [], (s2 σ2 1 4 ((σ2 1 4) + 1)))) rfl ?_
        exact h
      · replace h := (if_neg (c_geF hc3)).mp h
        refine PW.runs hw_31 rfl 4 (q := (69, [some (.ref 1), some (.int a), some (.int b), some (.int x3)], [], σ2)) (q' := (74, [some (.ref 1), some (.int a), some (.int b), some (.int x3)], [.ref 1, .int (x3 * 10)], σ2)) rfl ?_
        refine PW.callV (b := 1) (vs := []) (rest := [.int (x3 * 10)]) (ins_l hw_31 rfl) rfl rfl rfl (Nat.le_of_ble_eq_true rfl) (Nat.le_of_ble_eq_true rfl) (PW.mono h ?_)
        rintro _ σ3 ⟨v3, rfl, h⟩
        show PW none 31 77 [some (.ref 1), some (.int a), some (.int b), some (.int x3)] [.int v3, .int (x3 * 10)] σ3 _
        refine PW.runs hw_31 rfl 11 (q := (77, [some (.ref 1), some (.int a), some (.int b), some (.int x3)], [.int v3, .int (x3 * 10)], σ3)) (q' := (35, [some (.ref 1), some (.int a), some (.int b), some (.int (((x3 * 10) + v3) - 48))], [], (s2 σ3 1 4 ((σ3 1 4) + 1)))) rfl ?_
        exact h
set_option maxRecDepth 20000 in
theorem w_31_95 {a : Int32} {b : Int32} {x3 : Int32} {σ : St} {K : Int32 → St → Prop} (h : (if 3 < ((σ 1 4) - (σ 1 5)) then CV 36 [.ref 1, .int 2, .int (σ 1 5)] σ (fun σ1 => K x3 σ1) else CI 91 [.int x3, .int a, .int b] σ (fun v2 σ2 => (if v2 = 0 then CV 36 [.ref 1, .int 2, .int (σ2 1 5)] σ2 (fun σ3 => K x3 σ3) else K x3 σ2)))) : PI 31 95 [some (.ref 1), some (.int a), some (.int b), some (.int x3)] [] σ K := by
  show PW none 31 95 [some (.ref 1), some (.int a), some (.int b), some (.int x3)] [] σ _
  refine PW.runs hw_31 rfl 6 (q := (95, [some (.ref 1), some (.int a), some (.int b), some (.int x3)], [], σ)) (q' := (105, [some (.ref 1), some (.int a), some (.int b), some (.int x3)], [.int 3, .int ((σ 1 4) - (σ 1 5))], σ)) rfl ?_
  refine PW.icm (t := 117) (ins_l hw_31 rfl) rfl (fun hc1 => ?_) (fun hc1 => ?_)
  · replace h := (if_pos (c_gtT hc1)).mp h
    refine PW.runs hw_31 rfl 4 (q := (117, [some (.ref 1), some (.int a), some (.int b), some (.int x3)], [], σ)) (q' := (123, [some (.ref 1), some (.int a), some (.int b), some (.int x3)], [.int (σ 1 5), .int 2, .ref 1], σ)) rfl ?_
    refine PW.callV (b := 1) (vs := [.int 2, .int (σ 1 5)]) (rest := []) (ins_l hw_31 rfl) rfl rfl rfl (Nat.le_of_ble_eq_true rfl) (Nat.le_of_ble_eq_true rfl) (PW.mono h ?_)
    rintro _ σ1 ⟨rfl, h⟩
    show PW none 31 126 [some (.ref 1), some (.int a), some (.int b), some (.int x3)] [] σ1 _
    refine PW.runs hw_31 rfl 1 (q := (126, [some (.ref 1), some (.int a), some (.int b), some (.int x3)], [], σ1)) (q' := (127, [some (.ref 1), some (.int a), some (.int b), some (.int x3)], [.int x3], σ1)) rfl ?_
    exact PW.iret (ins_l hw_31 rfl) (Or.inl rfl) ⟨_, rfl, h⟩
  · replace h := (if_neg (c_gtF hc1)).mp h
    refine PW.runs hw_31 rfl 3 (q := (108, [some (.ref 1), some (.int a), some (.int b), some (.int x3)], [], σ)) (q' := (111, [some (.ref 1), some (.int a), some (.int b), some (.int x3)], [.int b, .int a, .int x3], σ)) rfl ?_
    refine PW.callS (vs := [.int x3, .int a, .int b]) (rest := []) (ins_l hw_31 rfl) rfl (Or.inr rfl) rfl (Nat.le_of_ble_eq_true rfl) (Nat.le_of_ble_eq_true rfl) (PW.mono h ?_)
    rintro _ σ2 ⟨v2, rfl, h⟩
    show PW none 31 114 [some (.ref 1), some (.int a), some (.int b), some (.int x3)] [.int v2] σ2 _
    refine PW.ifc (t := 126) (ins_l hw_31 rfl) rfl (fun hc2 => ?_) (fun hc2 => ?_)
    · replace h := (if_neg (c_neT hc2)).mp h
      refine PW.runs hw_31 rfl 1 (q := (126, [some (.ref 1), some (.int a), some (.int b), some (.int x3)], [], σ2)) (q' := (127, [some (.ref 1), some (.int a), some (.int b), some (.int x3)], [.int x3], σ2)) rfl ?_
      exact PW.iret (ins_l hw_31 rfl) (Or.inl rfl) ⟨_, rfl, h⟩
    · replace h := (if_pos (c_neF hc2)).mp h
      refine PW.runs hw_31 rfl 4 (q := (117, [some (.ref 1), some (.int a), some (.int b), some (.int x3)], [], σ2)) (q' := (123, [some (.ref 1), some (.int a), some (.int b), some (.int x3)], [.int (σ2 1 5), .int 2, .ref 1], σ2)) rfl ?_
      refine PW.callV (b := 1) (vs := [.int 2, .int (σ2 1 5)]) (rest := []) (ins_l hw_31 rfl) rfl rfl rfl (Nat.le_of_ble_eq_true rfl) (Nat.le_of_ble_eq_true rfl) (PW.mono h ?_)
      rintro _ σ3 ⟨rfl, h⟩
      show PW none 31 126 [some (.ref 1), some (.int a), some (.int b), some (.int x3)] [] σ3 _
      refine PW.runs hw_31 rfl 1 (q := (126, [some (.ref 1), some (.int a), some (.int b), some (.int x3)], [], σ3)) (q' := (127, [some (.ref 1), some (.int a), some (.int b), some (.int x3)], [.int x3], σ3)) rfl ?_
      exact PW.iret (ins_l hw_31 rfl) (Or.inl rfl) ⟨_, rfl, h⟩
theorem hw_32 : pins.getD 32 [] = pi_32 := rfl
/-! MapDuty$Reader.endClause.()V -/
set_option maxRecDepth 20000 in
theorem w_32  {σ : St} {K : St → Prop} (h : CV 33 [.ref 1] σ (fun σ1 => CI 34 [.ref 1] σ1 (fun v2 σ2 => (if v2 = 59 then K (s2 σ2 1 4 ((σ2 1 4) + 1)) else CV 36 [.ref 1, .int 1, .int (σ2 1 4)] σ2 (fun σ3 => K σ3))))) : CV 32 [.ref 1] σ K := by
  show PW none 32 0 [some (.ref 1)] [] σ _
  refine PW.runs hw_32 rfl 1 (q := (0, [some (.ref 1)], [], σ)) (q' := (1, [some (.ref 1)], [.ref 1], σ)) rfl ?_
  refine PW.callV (b := 1) (vs := []) (rest := []) (ins_l hw_32 rfl) rfl rfl rfl (Nat.le_of_ble_eq_true rfl) (Nat.le_of_ble_eq_true rfl) (PW.mono h ?_)
  rintro _ σ1 ⟨rfl, h⟩
  show PW none 32 4 [some (.ref 1)] [] σ1 _
  refine PW.runs hw_32 rfl 1 (q := (4, [some (.ref 1)], [], σ1)) (q' := (5, [some (.ref 1)], [.ref 1], σ1)) rfl ?_
  refine PW.callV (b := 1) (vs := []) (rest := []) (ins_l hw_32 rfl) rfl rfl rfl (Nat.le_of_ble_eq_true rfl) (Nat.le_of_ble_eq_true rfl) (PW.mono h ?_)
  rintro _ σ2 ⟨v2, rfl, h⟩
  show PW none 32 8 [some (.ref 1)] [.int v2] σ2 _
  refine PW.runs hw_32 rfl 1 (q := (8, [some (.ref 1)], [.int v2], σ2)) (q' := (10, [some (.ref 1)], [.int 59, .int v2], σ2)) rfl ?_
  refine PW.icm (t := 26) (ins_l hw_32 rfl) rfl (fun hc1 => ?_) (fun hc1 => ?_)
  · replace h := (if_neg (c_neT hc1)).mp h
    refine PW.runs hw_32 rfl 4 (q := (26, [some (.ref 1)], [], σ2)) (q' := (32, [some (.ref 1)], [.int (σ2 1 4), .int 1, .ref 1], σ2)) rfl ?_
    refine PW.callV (b := 1) (vs := [.int 1, .int (σ2 1 4)]) (rest := []) (ins_l hw_32 rfl) rfl rfl rfl (Nat.le_of_ble_eq_true rfl) (Nat.le_of_ble_eq_true rfl) (PW.mono h ?_)
    rintro _ σ3 ⟨rfl, h⟩
    show PW none 32 35 [some (.ref 1)] [] σ3 _
    exact PW.vret (ins_l hw_32 rfl) rfl ⟨rfl, h⟩
  · replace h := (if_pos (c_neF hc1)).mp h
    refine PW.runs hw_32 rfl 7 (q := (13, [some (.ref 1)], [], σ2)) (q' := (35, [some (.ref 1)], [], (s2 σ2 1 4 ((σ2 1 4) + 1)))) rfl ?_
    exact PW.vret (ins_l hw_32 rfl) rfl ⟨rfl, h⟩
theorem hw_30 : pins.getD 30 [] = pi_30 := rfl
/-! MapDuty$Reader.forbid.(I)V -/
set_option maxRecDepth 20000 in
theorem w_30 {a : Int32} {σ : St} {K : St → Prop} (h : (if a = 0 then K σ else CV 36 [.ref 1, .int 2, .int (σ 1 5)] σ (fun σ1 => K σ1))) : CV 30 [.ref 1, .int a] σ K := by
  show PW none 30 0 [some (.ref 1), some (.int a)] [] σ _
  refine PW.runs hw_30 rfl 1 (q := (0, [some (.ref 1), some (.int a)], [], σ)) (q' := (1, [some (.ref 1), some (.int a)], [.int a], σ)) rfl ?_
  refine PW.ifc (t := 13) (ins_l hw_30 rfl) rfl (fun hc1 => ?_) (fun hc1 => ?_)
  · replace h := (if_pos (c_eqT hc1)).mp h
    exact PW.vret (ins_l hw_30 rfl) rfl ⟨rfl, h⟩
  · replace h := (if_neg (c_eqF hc1)).mp h
    refine PW.runs hw_30 rfl 4 (q := (4, [some (.ref 1), some (.int a)], [], σ)) (q' := (10, [some (.ref 1), some (.int a)], [.int (σ 1 5), .int 2, .ref 1], σ)) rfl ?_
    refine PW.callV (b := 1) (vs := [.int 2, .int (σ 1 5)]) (rest := []) (ins_l hw_30 rfl) rfl rfl rfl (Nat.le_of_ble_eq_true rfl) (Nat.le_of_ble_eq_true rfl) (PW.mono h ?_)
    rintro _ σ1 ⟨rfl, h⟩
    show PW none 30 13 [some (.ref 1), some (.int a)] [] σ1 _
    exact PW.vret (ins_l hw_30 rfl) rfl ⟨rfl, h⟩
/-! MapDuty.within.(III)Z -/
set_option maxRecDepth 20000 in
theorem w_91 {a : Int32} {b : Int32} {c : Int32} {σ : St} {K : Int32 → St → Prop} (h : (if a < b then K 0 σ else (if c < a then K 0 σ else K 1 σ))) : CI 91 [.int a, .int b, .int c] σ K := by
  show PW none 91 0 [some (.int a), some (.int b), some (.int c)] [] σ _
  refine PW.runs hw_91 rfl 2 (q := (0, [some (.int a), some (.int b), some (.int c)], [], σ)) (q' := (2, [some (.int a), some (.int b), some (.int c)], [.int b, .int a], σ)) rfl ?_
  refine PW.icm (t := 14) (ins_l hw_91 rfl) rfl (fun hc1 => ?_) (fun hc1 => ?_)
  · replace h := (if_pos (c_ltT hc1)).mp h
    refine PW.runs hw_91 rfl 1 (q := (14, [some (.int a), some (.int b), some (.int c)], [], σ)) (q' := (15, [some (.int a), some (.int b), some (.int c)], [.int 0], σ)) rfl ?_
    exact PW.iret (ins_l hw_91 rfl) (Or.inr ⟨rfl, by decide⟩) ⟨_, rfl, h⟩
  · replace h := (if_neg (c_ltF hc1)).mp h
    refine PW.runs hw_91 rfl 2 (q := (5, [some (.int a), some (.int b), some (.int c)], [], σ)) (q' := (7, [some (.int a), some (.int b), some (.int c)], [.int c, .int a], σ)) rfl ?_
    refine PW.icm (t := 14) (ins_l hw_91 rfl) rfl (fun hc2 => ?_) (fun hc2 => ?_)
    · replace h := (if_pos (c_gtT hc2)).mp h
      refine PW.runs hw_91 rfl 1 (q := (14, [some (.int a), some (.int b), some (.int c)], [], σ)) (q' := (15, [some (.int a), some (.int b), some (.int c)], [.int 0], σ)) rfl ?_
      exact PW.iret (ins_l hw_91 rfl) (Or.inr ⟨rfl, by decide⟩) ⟨_, rfl, h⟩
    · replace h := (if_neg (c_gtF hc2)).mp h
      refine PW.runs hw_91 rfl 2 (q := (10, [some (.int a), some (.int b), some (.int c)], [], σ)) (q' := (15, [some (.int a), some (.int b), some (.int c)], [.int 1], σ)) rfl ?_
      exact PW.iret (ins_l hw_91 rfl) (Or.inr ⟨rfl, by decide⟩) ⟨_, rfl, h⟩
theorem hw_94 : pins.getD 94 [] = pi_94 := rfl
/-! MapDuty.allOf.(I)I -/
set_option maxRecDepth 20000 in
theorem w_94 {a : Int32} {σ : St} {K : Int32 → St → Prop} (h : K ((1 <<< (a &&& 31)) - 1) σ) : CI 94 [.int a] σ K := by
  show PW none 94 0 [some (.int a)] [] σ _
  refine PW.runs hw_94 rfl 5 (q := (0, [some (.int a)], [], σ)) (q' := (5, [some (.int a)], [.int ((1 <<< (a &&& 31)) - 1)], σ)) rfl ?_
  exact PW.iret (ins_l hw_94 rfl) (Or.inl rfl) ⟨_, rfl, h⟩
theorem hw_25 : pins.getD 25 [] = pi_25 := rfl
/-! MapDuty$Reader.wordFault.(LMapDuty$Plan;I)I -/
set_option maxRecDepth 20000 in
theorem w_25 {a : Int32} {σ : St} {K : Int32 → St → Prop} (h : (if a = 105 then (if (σ 3 0) = 0 then K 1 σ else (if (σ 3 3) < 4 then K 0 σ else K 3 σ)) else (if a = 108 then (if (σ 3 0) = 0 then K 1 σ else (if (σ 3 2) ≤ 0 then (if (σ 3 1) < 12 then K 0 σ else K 3 σ) else K 1 σ)) else (if a = 109 then (if (σ 3 0) = 0 then K 1 σ else (if (σ 3 2) < 5 then K 0 σ else K 3 σ)) else (if a = 110 then (if (σ 3 0) ≤ 0 then K 0 σ else K 3 σ) else K 1 σ))))) : CI 25 [.ref 3, .int a] σ K := by
  show PW none 25 0 [some (.ref 3), some (.int a)] [] σ _
  refine PW.runs hw_25 rfl 1 (q := (0, [some (.ref 3), some (.int a)], [], σ)) (q' := (1, [some (.ref 3), some (.int a)], [.int a], σ)) rfl ?_
  by_cases c0 : a = 105
  · replace h := (if_pos c0).mp h
    refine PW.tswK (k := 0) (t := 107) (ins_l hw_25 rfl) c0 (by decide) (by decide) rfl rfl ?_
    refine PW.runs hw_25 rfl 2 (q := (107, [some (.ref 3), some (.int a)], [], σ)) (q' := (111, [some (.ref 3), some (.int a)], [.int (σ 3 0)], σ)) rfl ?_
    refine PW.ifc (t := 116) (ins_l hw_25 rfl) rfl (fun hc1 => ?_) (fun hc1 => ?_)
    · replace h := (if_neg (c_neT hc1)).mp h
      refine PW.runs hw_25 rfl 3 (q := (116, [some (.ref 3), some (.int a)], [], σ)) (q' := (121, [some (.ref 3), some (.int a)], [.int 4, .int (σ 3 3)], σ)) rfl ?_
      refine PW.icm (t := 128) (ins_l hw_25 rfl) rfl (fun hc2 => ?_) (fun hc2 => ?_)
      · replace h := (if_pos (c_ltT hc2)).mp h
        refine PW.runs hw_25 rfl 1 (q := (128, [some (.ref 3), some (.int a)], [], σ)) (q' := (129, [some (.ref 3), some (.int a)], [.int 0], σ)) rfl ?_
        exact PW.iret (ins_l hw_25 rfl) (Or.inl rfl) ⟨_, rfl, h⟩
      · replace h := (if_neg (c_ltF hc2)).mp h
        refine PW.runs hw_25 rfl 2 (q := (124, [some (.ref 3), some (.int a)], [], σ)) (q' := (129, [some (.ref 3), some (.int a)], [.int 3], σ)) rfl ?_
        exact PW.iret (ins_l hw_25 rfl) (Or.inl rfl) ⟨_, rfl, h⟩
    · replace h := (if_pos (c_neF hc1)).mp h
      refine PW.runs hw_25 rfl 1 (q := (114, [some (.ref 3), some (.int a)], [], σ)) (q' := (115, [some (.ref 3), some (.int a)], [.int 1], σ)) rfl ?_
      exact PW.iret (ins_l hw_25 rfl) (Or.inl rfl) ⟨_, rfl, h⟩
  replace h := (if_neg c0).mp h
  by_cases c1 : a = 108
  · replace h := (if_pos c1).mp h
    refine PW.tswK (k := 3) (t := 53) (ins_l hw_25 rfl) c1 (by decide) (by decide) rfl rfl ?_
    refine PW.runs hw_25 rfl 2 (q := (53, [some (.ref 3), some (.int a)], [], σ)) (q' := (57, [some (.ref 3), some (.int a)], [.int (σ 3 0)], σ)) rfl ?_
    refine PW.ifc (t := 67) (ins_l hw_25 rfl) rfl (fun hc1 => ?_) (fun hc1 => ?_)
    · replace h := (if_pos (c_eqT hc1)).mp h
      refine PW.runs hw_25 rfl 1 (q := (67, [some (.ref 3), some (.int a)], [], σ)) (q' := (68, [some (.ref 3), some (.int a)], [.int 1], σ)) rfl ?_
      exact PW.iret (ins_l hw_25 rfl) (Or.inl rfl) ⟨_, rfl, h⟩
    · replace h := (if_neg (c_eqF hc1)).mp h
      refine PW.runs hw_25 rfl 2 (q := (60, [some (.ref 3), some (.int a)], [], σ)) (q' := (64, [some (.ref 3), some (.int a)], [.int (σ 3 2)], σ)) rfl ?_
      refine PW.ifc (t := 69) (ins_l hw_25 rfl) rfl (fun hc2 => ?_) (fun hc2 => ?_)
      · replace h := (if_pos (c_leT hc2)).mp h
        refine PW.runs hw_25 rfl 3 (q := (69, [some (.ref 3), some (.int a)], [], σ)) (q' := (75, [some (.ref 3), some (.int a)], [.int 12, .int (σ 3 1)], σ)) rfl ?_
        refine PW.icm (t := 82) (ins_l hw_25 rfl) rfl (fun hc3 => ?_) (fun hc3 => ?_)
        · replace h := (if_pos (c_ltT hc3)).mp h
          refine PW.runs hw_25 rfl 1 (q := (82, [some (.ref 3), some (.int a)], [], σ)) (q' := (83, [some (.ref 3), some (.int a)], [.int 0], σ)) rfl ?_
          exact PW.iret (ins_l hw_25 rfl) (Or.inl rfl) ⟨_, rfl, h⟩
        · replace h := (if_neg (c_ltF hc3)).mp h
          refine PW.runs hw_25 rfl 2 (q := (78, [some (.ref 3), some (.int a)], [], σ)) (q' := (83, [some (.ref 3), some (.int a)], [.int 3], σ)) rfl ?_
          exact PW.iret (ins_l hw_25 rfl) (Or.inl rfl) ⟨_, rfl, h⟩
      · replace h := (if_neg (c_leF hc2)).mp h
        refine PW.runs hw_25 rfl 1 (q := (67, [some (.ref 3), some (.int a)], [], σ)) (q' := (68, [some (.ref 3), some (.int a)], [.int 1], σ)) rfl ?_
        exact PW.iret (ins_l hw_25 rfl) (Or.inl rfl) ⟨_, rfl, h⟩
  replace h := (if_neg c1).mp h
  by_cases c2 : a = 109
  · replace h := (if_pos c2).mp h
    refine PW.tswK (k := 4) (t := 84) (ins_l hw_25 rfl) c2 (by decide) (by decide) rfl rfl ?_
    refine PW.runs hw_25 rfl 2 (q := (84, [some (.ref 3), some (.int a)], [], σ)) (q' := (88, [some (.ref 3), some (.int a)], [.int (σ 3 0)], σ)) rfl ?_
    refine PW.ifc (t := 93) (ins_l hw_25 rfl) rfl (fun hc1 => ?_) (fun hc1 => ?_)
    · replace h := (if_neg (c_neT hc1)).mp h
      refine PW.runs hw_25 rfl 3 (q := (93, [some (.ref 3), some (.int a)], [], σ)) (q' := (98, [some (.ref 3), some (.int a)], [.int 5, .int (σ 3 2)], σ)) rfl ?_
      refine PW.icm (t := 105) (ins_l hw_25 rfl) rfl (fun hc2 => ?_) (fun hc2 => ?_)
      · replace h := (if_pos (c_ltT hc2)).mp h
        refine PW.runs hw_25 rfl 1 (q := (105, [some (.ref 3), some (.int a)], [], σ)) (q' := (106, [some (.ref 3), some (.int a)], [.int 0], σ)) rfl ?_
        exact PW.iret (ins_l hw_25 rfl) (Or.inl rfl) ⟨_, rfl, h⟩
      · replace h := (if_neg (c_ltF hc2)).mp h
        refine PW.runs hw_25 rfl 2 (q := (101, [some (.ref 3), some (.int a)], [], σ)) (q' := (106, [some (.ref 3), some (.int a)], [.int 3], σ)) rfl ?_
        exact PW.iret (ins_l hw_25 rfl) (Or.inl rfl) ⟨_, rfl, h⟩
    · replace h := (if_pos (c_neF hc1)).mp h
      refine PW.runs hw_25 rfl 1 (q := (91, [some (.ref 3), some (.int a)], [], σ)) (q' := (92, [some (.ref 3), some (.int a)], [.int 1], σ)) rfl ?_
      exact PW.iret (ins_l hw_25 rfl) (Or.inl rfl) ⟨_, rfl, h⟩
  replace h := (if_neg c2).mp h
  by_cases c3 : a = 110
  · replace h := (if_pos c3).mp h
    refine PW.tswK (k := 5) (t := 40) (ins_l hw_25 rfl) c3 (by decide) (by decide) rfl rfl ?_
    refine PW.runs hw_25 rfl 2 (q := (40, [some (.ref 3), some (.int a)], [], σ)) (q' := (44, [some (.ref 3), some (.int a)], [.int (σ 3 0)], σ)) rfl ?_
    refine PW.ifc (t := 51) (ins_l hw_25 rfl) rfl (fun hc1 => ?_) (fun hc1 => ?_)
    · replace h := (if_pos (c_leT hc1)).mp h
      refine PW.runs hw_25 rfl 1 (q := (51, [some (.ref 3), some (.int a)], [], σ)) (q' := (52, [some (.ref 3), some (.int a)], [.int 0], σ)) rfl ?_
      exact PW.iret (ins_l hw_25 rfl) (Or.inl rfl) ⟨_, rfl, h⟩
    · replace h := (if_neg (c_leF hc1)).mp h
      refine PW.runs hw_25 rfl 2 (q := (47, [some (.ref 3), some (.int a)], [], σ)) (q' := (52, [some (.ref 3), some (.int a)], [.int 3], σ)) rfl ?_
      exact PW.iret (ins_l hw_25 rfl) (Or.inl rfl) ⟨_, rfl, h⟩
  replace h := (if_neg c3).mp h
  have hD : PI 25 130 [some (.ref 3), some (.int a)] [] σ K := by
    refine PW.runs hw_25 rfl 1 (q := (130, [some (.ref 3), some (.int a)], [], σ)) (q' := (131, [some (.ref 3), some (.int a)], [.int 1], σ)) rfl ?_
    exact PW.iret (ins_l hw_25 rfl) (Or.inl rfl) ⟨_, rfl, h⟩
  by_cases g106 : a = 106
  · exact PW.tswK (k := 1) (t := 130) (ins_l hw_25 rfl) g106 (by decide) (by decide) rfl rfl hD
  by_cases g107 : a = 107
  · exact PW.tswK (k := 2) (t := 130) (ins_l hw_25 rfl) g107 (by decide) (by decide) rfl rfl hD
  refine PW.tswD (t := 130) (ins_l hw_25 rfl) ?_ rfl hD
  have zc0 := tne c0 (k := 105) rfl
  have zc1 := tne c1 (k := 108) rfl
  have zc2 := tne c2 (k := 109) rfl
  have zc3 := tne c3 (k := 110) rfl
  have zg106 := tne g106 (k := 106) rfl
  have zg107 := tne g107 (k := 107) rfl
  omega
theorem hw_26 : pins.getD 26 [] = pi_26 := rfl
/-! MapDuty$Reader.readPlaces.(LMapDuty$Plan;)V -/
set_option maxRecDepth 20000 in
theorem w_26  {σ : St} {K : St → Prop} (h : CI 31 [.ref 1, .int 2, .int 8] σ (fun v1 σ1 => CV 32 [.ref 1] σ1 (fun σ2 => (if (σ2 1 3) = 0 then K (s2 σ2 3 0 v1) else K σ2)))) : CV 26 [.ref 1, .ref 3] σ K := by
  show PW none 26 0 [some (.ref 1), some (.ref 3), none] [] σ _
  refine PW.runs hw_26 rfl 3 (q := (0, [some (.ref 1), some (.ref 3), none], [], σ)) (q' := (4, [some (.ref 1), some (.ref 3), none], [.int 8, .int 2, .ref 1], σ)) rfl ?_
  refine PW.callV (b := 1) (vs := [.int 2, .int 8]) (rest := []) (ins_l hw_26 rfl) rfl rfl rfl (Nat.le_of_ble_eq_true rfl) (Nat.le_of_ble_eq_true rfl) (PW.mono h ?_)
  rintro _ σ1 ⟨v1, rfl, h⟩
  show PW none 26 7 [some (.ref 1), some (.ref 3), none] [.int v1] σ1 _
  refine PW.runs hw_26 rfl 2 (q := (7, [some (.ref 1), some (.ref 3), none], [.int v1], σ1)) (q' := (9, [some (.ref 1), some (.ref 3), some (.int v1)], [.ref 1], σ1)) rfl ?_
  refine PW.callV (b := 1) (vs := []) (rest := []) (ins_l hw_26 rfl) rfl rfl rfl (Nat.le_of_ble_eq_true rfl) (Nat.le_of_ble_eq_true rfl) (PW.mono h ?_)
  rintro _ σ2 ⟨rfl, h⟩
  show PW none 26 12 [some (.ref 1), some (.ref 3), some (.int v1)] [] σ2 _
  refine PW.runs hw_26 rfl 2 (q := (12, [some (.ref 1), some (.ref 3), some (.int v1)], [], σ2)) (q' := (16, [some (.ref 1), some (.ref 3), some (.int v1)], [.int (σ2 1 3)], σ2)) rfl ?_
  refine PW.ifc (t := 24) (ins_l hw_26 rfl) rfl (fun hc1 => ?_) (fun hc1 => ?_)
  · replace h := (if_neg (c_neT hc1)).mp h
    exact PW.vret (ins_l hw_26 rfl) rfl ⟨rfl, h⟩
  · replace h := (if_pos (c_neF hc1)).mp h
    refine PW.runs hw_26 rfl 3 (q := (19, [some (.ref 1), some (.ref 3), some (.int v1)], [], σ2)) (q' := (24, [some (.ref 1), some (.ref 3), some (.int v1)], [], (s2 σ2 3 0 v1))) rfl ?_
    exact PW.vret (ins_l hw_26 rfl) rfl ⟨rfl, h⟩
theorem hw_27 : pins.getD 27 [] = pi_27 := rfl
/-! MapDuty$Reader.readLine.(LMapDuty$Plan;)V -/
set_option maxRecDepth 20000 in
theorem w_27  {σ : St} {K : St → Prop} (h : CI 31 [.ref 1, .int 0, .int ((σ 3 0) - 1)] σ (fun v1 σ1 => CI 31 [.ref 1, .int 0, .int ((σ1 3 0) - 1)] σ1 (fun v2 σ2 => (if (σ2 1 3) = 0 then (if v1 = v2 then CV 36 [.ref 1, .int 4, .int (σ2 1 5)] σ2 (fun σ3 => PV 27 54 [some (.ref 1), some (.ref 3), some (.int v1), some (.int v2), none, none] [] σ3 K) else CI 17 [.ref 3, .int v1, .int v2] σ2 (fun v4 σ4 => (if v4 = 0 then PV 27 54 [some (.ref 1), some (.ref 3), some (.int v1), some (.int v2), none, none] [] σ4 K else CV 36 [.ref 1, .int 4, .int (σ4 1 5)] σ4 (fun σ5 => PV 27 54 [some (.ref 1), some (.ref 3), some (.int v1), some (.int v2), none, none] [] σ5 K)))) else PV 27 54 [some (.ref 1), some (.ref 3), some (.int v1), some (.int v2), none, none] [] σ2 K)))) : CV 27 [.ref 1, .ref 3] σ K := by
  show PW none 27 0 [some (.ref 1), some (.ref 3), none, none, none, none] [] σ _
  refine PW.runs hw_27 rfl 6 (q := (0, [some (.ref 1), some (.ref 3), none, none, none, none], [], σ)) (q' := (8, [some (.ref 1), some (.ref 3), none, none, none, none], [.int ((σ 3 0) - 1), .int 0, .ref 1], σ)) rfl ?_
  refine PW.callV (b := 1) (vs := [.int 0, .int ((σ 3 0) - 1)]) (rest := []) (ins_l hw_27 rfl) rfl rfl rfl (Nat.le_of_ble_eq_true rfl) (Nat.le_of_ble_eq_true rfl) (PW.mono h ?_)
  rintro _ σ1 ⟨v1, rfl, h⟩
  show PW none 27 11 [some (.ref 1), some (.ref 3), none, none, none, none] [.int v1] σ1 _
  refine PW.runs hw_27 rfl 7 (q := (11, [some (.ref 1), some (.ref 3), none, none, none, none], [.int v1], σ1)) (q' := (20, [some (.ref 1), some (.ref 3), some (.int v1), none, none, none], [.int ((σ1 3 0) - 1), .int 0, .ref 1], σ1)) rfl ?_
  refine PW.callV (b := 1) (vs := [.int 0, .int ((σ1 3 0) - 1)]) (rest := []) (ins_l hw_27 rfl) rfl rfl rfl (Nat.le_of_ble_eq_true rfl) (Nat.le_of_ble_eq_true rfl) (PW.mono h ?_)
  rintro _ σ2 ⟨v2, rfl, h⟩
  show PW none 27 23 [some (.ref 1), some (.ref 3), some (.int v1), none, none, none] [.int v2] σ2 _
  refine PW.runs hw_27 rfl 3 (q := (23, [some (.ref 1), some (.ref 3), some (.int v1), none, none, none], [.int v2], σ2)) (q' := (28, [some (.ref 1), some (.ref 3), some (.int v1), some (.int v2), none, none], [.int (σ2 1 3)], σ2)) rfl ?_
  refine PW.ifc (t := 54) (ins_l hw_27 rfl) rfl (fun hc1 => ?_) (fun hc1 => ?_)
  · replace h := (if_neg (c_neT hc1)).mp h
    exact h
  · replace h := (if_pos (c_neF hc1)).mp h
    refine PW.runs hw_27 rfl 2 (q := (31, [some (.ref 1), some (.ref 3), some (.int v1), some (.int v2), none, none], [], σ2)) (q' := (33, [some (.ref 1), some (.ref 3), some (.int v1), some (.int v2), none, none], [.int v2, .int v1], σ2)) rfl ?_
    refine PW.icm (t := 45) (ins_l hw_27 rfl) rfl (fun hc2 => ?_) (fun hc2 => ?_)
    · replace h := (if_pos (c_eqT hc2)).mp h
      refine PW.runs hw_27 rfl 4 (q := (45, [some (.ref 1), some (.ref 3), some (.int v1), some (.int v2), none, none], [], σ2)) (q' := (51, [some (.ref 1), some (.ref 3), some (.int v1), some (.int v2), none, none], [.int (σ2 1 5), .int 4, .ref 1], σ2)) rfl ?_
      refine PW.callV (b := 1) (vs := [.int 4, .int (σ2 1 5)]) (rest := []) (ins_l hw_27 rfl) rfl rfl rfl (Nat.le_of_ble_eq_true rfl) (Nat.le_of_ble_eq_true rfl) (PW.mono h ?_)
      rintro _ σ3 ⟨rfl, h⟩
      show PW none 27 54 [some (.ref 1), some (.ref 3), some (.int v1), some (.int v2), none, none] [] σ3 _
      exact h
    · replace h := (if_neg (c_eqF hc2)).mp h
      refine PW.runs hw_27 rfl 3 (q := (36, [some (.ref 1), some (.ref 3), some (.int v1), some (.int v2), none, none], [], σ2)) (q' := (39, [some (.ref 1), some (.ref 3), some (.int v1), some (.int v2), none, none], [.int v2, .int v1, .ref 3], σ2)) rfl ?_
      refine PW.callV (b := 3) (vs := [.int v1, .int v2]) (rest := []) (ins_l hw_27 rfl) rfl rfl rfl (Nat.le_of_ble_eq_true rfl) (Nat.le_of_ble_eq_true rfl) (PW.mono h ?_)
      rintro _ σ4 ⟨v4, rfl, h⟩
      show PW none 27 42 [some (.ref 1), some (.ref 3), some (.int v1), some (.int v2), none, none] [.int v4] σ4 _
      refine PW.ifc (t := 54) (ins_l hw_27 rfl) rfl (fun hc3 => ?_) (fun hc3 => ?_)
      · replace h := (if_pos (c_eqT hc3)).mp h
        exact h
      · replace h := (if_neg (c_eqF hc3)).mp h
        refine PW.runs hw_27 rfl 4 (q := (45, [some (.ref 1), some (.ref 3), some (.int v1), some (.int v2), none, none], [], σ4)) (q' := (51, [some (.ref 1), some (.ref 3), some (.int v1), some (.int v2), none, none], [.int (σ4 1 5), .int 4, .ref 1], σ4)) rfl ?_
        refine PW.callV (b := 1) (vs := [.int 4, .int (σ4 1 5)]) (rest := []) (ins_l hw_27 rfl) rfl rfl rfl (Nat.le_of_ble_eq_true rfl) (Nat.le_of_ble_eq_true rfl) (PW.mono h ?_)
        rintro _ σ5 ⟨rfl, h⟩
        show PW none 27 54 [some (.ref 1), some (.ref 3), some (.int v1), some (.int v2), none, none] [] σ5 _
        exact h
set_option maxRecDepth 20000 in
theorem w_27_54 {x2 : Int32} {x3 : Int32} {σ : St} {K : St → Prop} (h : CI 31 [.ref 1, .int 0, .int 1] σ (fun v1 σ1 => CI 31 [.ref 1, .int 0, .int 50] σ1 (fun v2 σ2 => CV 32 [.ref 1] σ2 (fun σ3 => (if (σ3 1 3) = 0 then CV 14 [.ref 3, .int x2, .int x3, .int v1, .int v2] σ3 (fun σ4 => K σ4) else K σ3))))) : PV 27 54 [some (.ref 1), some (.ref 3), some (.int x2), some (.int x3), none, none] [] σ K := by
  show PW none 27 54 [some (.ref 1), some (.ref 3), some (.int x2), some (.int x3), none, none] [] σ _
  refine PW.runs hw_27 rfl 3 (q := (54, [some (.ref 1), some (.ref 3), some (.int x2), some (.int x3), none, none], [], σ)) (q' := (57, [some (.ref 1), some (.ref 3), some (.int x2), some (.int x3), none, none], [.int 1, .int 0, .ref 1], σ)) rfl ?_
  refine PW.callV (b := 1) (vs := [.int 0, .int 1]) (rest := []) (ins_l hw_27 rfl) rfl rfl rfl (Nat.le_of_ble_eq_true rfl) (Nat.le_of_ble_eq_true rfl) (PW.mono h ?_)
  rintro _ σ1 ⟨v1, rfl, h⟩
  show PW none 27 60 [some (.ref 1), some (.ref 3), some (.int x2), some (.int x3), none, none] [.int v1] σ1 _
  refine PW.runs hw_27 rfl 4 (q := (60, [some (.ref 1), some (.ref 3), some (.int x2), some (.int x3), none, none], [.int v1], σ1)) (q' := (66, [some (.ref 1), some (.ref 3), some (.int x2), some (.int x3), some (.int v1), none], [.int 50, .int 0, .ref 1], σ1)) rfl ?_
  refine PW.callV (b := 1) (vs := [.int 0, .int 50]) (rest := []) (ins_l hw_27 rfl) rfl rfl rfl (Nat.le_of_ble_eq_true rfl) (Nat.le_of_ble_eq_true rfl) (PW.mono h ?_)
  rintro _ σ2 ⟨v2, rfl, h⟩
  show PW none 27 69 [some (.ref 1), some (.ref 3), some (.int x2), some (.int x3), some (.int v1), none] [.int v2] σ2 _
  refine PW.runs hw_27 rfl 2 (q := (69, [some (.ref 1), some (.ref 3), some (.int x2), some (.int x3), some (.int v1), none], [.int v2], σ2)) (q' := (72, [some (.ref 1), some (.ref 3), some (.int x2), some (.int x3), some (.int v1), some (.int v2)], [.ref 1], σ2)) rfl ?_
  refine PW.callV (b := 1) (vs := []) (rest := []) (ins_l hw_27 rfl) rfl rfl rfl (Nat.le_of_ble_eq_true rfl) (Nat.le_of_ble_eq_true rfl) (PW.mono h ?_)
  rintro _ σ3 ⟨rfl, h⟩
  show PW none 27 75 [some (.ref 1), some (.ref 3), some (.int x2), some (.int x3), some (.int v1), some (.int v2)] [] σ3 _
  refine PW.runs hw_27 rfl 2 (q := (75, [some (.ref 1), some (.ref 3), some (.int x2), some (.int x3), some (.int v1), some (.int v2)], [], σ3)) (q' := (79, [some (.ref 1), some (.ref 3), some (.int x2), some (.int x3), some (.int v1), some (.int v2)], [.int (σ3 1 3)], σ3)) rfl ?_
  refine PW.ifc (t := 92) (ins_l hw_27 rfl) rfl (fun hc1 => ?_) (fun hc1 => ?_)
  · replace h := (if_neg (c_neT hc1)).mp h
    exact PW.vret (ins_l hw_27 rfl) rfl ⟨rfl, h⟩
  · replace h := (if_pos (c_neF hc1)).mp h
    refine PW.runs hw_27 rfl 5 (q := (82, [some (.ref 1), some (.ref 3), some (.int x2), some (.int x3), some (.int v1), some (.int v2)], [], σ3)) (q' := (89, [some (.ref 1), some (.ref 3), some (.int x2), some (.int x3), some (.int v1), some (.int v2)], [.int v2, .int v1, .int x3, .int x2, .ref 3], σ3)) rfl ?_
    refine PW.callV (b := 3) (vs := [.int x2, .int x3, .int v1, .int v2]) (rest := []) (ins_l hw_27 rfl) rfl rfl rfl (Nat.le_of_ble_eq_true rfl) (Nat.le_of_ble_eq_true rfl) (PW.mono h ?_)
    rintro _ σ4 ⟨rfl, h⟩
    show PW none 27 92 [some (.ref 1), some (.ref 3), some (.int x2), some (.int x3), some (.int v1), some (.int v2)] [] σ4 _
    exact PW.vret (ins_l hw_27 rfl) rfl ⟨rfl, h⟩
theorem hw_28 : pins.getD 28 [] = pi_28 := rfl
/-! MapDuty$Reader.readMap.(LMapDuty$Plan;)V -/
set_option maxRecDepth 20000 in
theorem w_28  {σ : St} {K : St → Prop} (h : CI 31 [.ref 1, .int 0, .int 4] σ (fun v1 σ1 => CI 31 [.ref 1, .int 0, .int 63] σ1 (fun v2 σ2 => CI 94 [.int (σ2 3 1)] σ2 (fun v3 σ3 => CV 30 [.ref 1, .int (v2 &&& (v3 ^^^ (-1)))] σ3 (fun σ4 => CI 31 [.ref 1, .int 0, .int 63] σ4 (fun v5 σ5 => CI 94 [.int (σ5 3 1)] σ5 (fun v6 σ6 => CV 30 [.ref 1, .int ((v5 <<< (6 &&& 31)) &&& (v6 ^^^ (-1)))] σ6 (fun σ7 => CV 32 [.ref 1] σ7 (fun σ8 => (if (σ8 1 3) = 0 then CV 15 [.ref 3, .int v1, .int (v2 ||| (v5 <<< (6 &&& 31)))] σ8 (fun σ9 => K σ9) else K σ8)))))))))) : CV 28 [.ref 1, .ref 3] σ K := by
  show PW none 28 0 [some (.ref 1), some (.ref 3), none, none, none] [] σ _
  refine PW.runs hw_28 rfl 3 (q := (0, [some (.ref 1), some (.ref 3), none, none, none], [], σ)) (q' := (3, [some (.ref 1), some (.ref 3), none, none, none], [.int 4, .int 0, .ref 1], σ)) rfl ?_
  refine PW.callV (b := 1) (vs := [.int 0, .int 4]) (rest := []) (ins_l hw_28 rfl) rfl rfl rfl (Nat.le_of_ble_eq_true rfl) (Nat.le_of_ble_eq_true rfl) (PW.mono h ?_)
  rintro _ σ1 ⟨v1, rfl, h⟩
  show PW none 28 6 [some (.ref 1), some (.ref 3), none, none, none] [.int v1] σ1 _
  refine PW.runs hw_28 rfl 4 (q := (6, [some (.ref 1), some (.ref 3), none, none, none], [.int v1], σ1)) (q' := (11, [some (.ref 1), some (.ref 3), some (.int v1), none, none], [.int 63, .int 0, .ref 1], σ1)) rfl ?_
  refine PW.callV (b := 1) (vs := [.int 0, .int 63]) (rest := []) (ins_l hw_28 rfl) rfl rfl rfl (Nat.le_of_ble_eq_true rfl) (Nat.le_of_ble_eq_true rfl) (PW.mono h ?_)
  rintro _ σ2 ⟨v2, rfl, h⟩
  show PW none 28 14 [some (.ref 1), some (.ref 3), some (.int v1), none, none] [.int v2] σ2 _
  refine PW.runs hw_28 rfl 5 (q := (14, [some (.ref 1), some (.ref 3), some (.int v1), none, none], [.int v2], σ2)) (q' := (21, [some (.ref 1), some (.ref 3), some (.int v1), some (.int v2), none], [.int (σ2 3 1), .int v2, .ref 1], σ2)) rfl ?_
  refine PW.callS (vs := [.int (σ2 3 1)]) (rest := [.int v2, .ref 1]) (ins_l hw_28 rfl) rfl (Or.inr rfl) rfl (Nat.le_of_ble_eq_true rfl) (Nat.le_of_ble_eq_true rfl) (PW.mono h ?_)
  rintro _ σ3 ⟨v3, rfl, h⟩
  show PW none 28 24 [some (.ref 1), some (.ref 3), some (.int v1), some (.int v2), none] [.int v3, .int v2, .ref 1] σ3 _
  refine PW.runs hw_28 rfl 3 (q := (24, [some (.ref 1), some (.ref 3), some (.int v1), some (.int v2), none], [.int v3, .int v2, .ref 1], σ3)) (q' := (27, [some (.ref 1), some (.ref 3), some (.int v1), some (.int v2), none], [.int (v2 &&& (v3 ^^^ (-1))), .ref 1], σ3)) rfl ?_
  refine PW.callV (b := 1) (vs := [.int (v2 &&& (v3 ^^^ (-1)))]) (rest := []) (ins_l hw_28 rfl) rfl rfl rfl (Nat.le_of_ble_eq_true rfl) (Nat.le_of_ble_eq_true rfl) (PW.mono h ?_)
  rintro _ σ4 ⟨rfl, h⟩
  show PW none 28 30 [some (.ref 1), some (.ref 3), some (.int v1), some (.int v2), none] [] σ4 _
  refine PW.runs hw_28 rfl 3 (q := (30, [some (.ref 1), some (.ref 3), some (.int v1), some (.int v2), none], [], σ4)) (q' := (34, [some (.ref 1), some (.ref 3), some (.int v1), some (.int v2), none], [.int 63, .int 0, .ref 1], σ4)) rfl ?_
  refine PW.callV (b := 1) (vs := [.int 0, .int 63]) (rest := []) (ins_l hw_28 rfl) rfl rfl rfl (Nat.le_of_ble_eq_true rfl) (Nat.le_of_ble_eq_true rfl) (PW.mono h ?_)
  rintro _ σ5 ⟨v5, rfl, h⟩
  show PW none 28 37 [some (.ref 1), some (.ref 3), some (.int v1), some (.int v2), none] [.int v5] σ5 _
  refine PW.runs hw_28 rfl 7 (q := (37, [some (.ref 1), some (.ref 3), some (.int v1), some (.int v2), none], [.int v5], σ5)) (q' := (49, [some (.ref 1), some (.ref 3), some (.int v1), some (.int v2), some (.int v5)], [.int (σ5 3 1), .int (v5 <<< (6 &&& 31)), .ref 1], σ5)) rfl ?_
  refine PW.callS (vs := [.int (σ5 3 1)]) (rest := [.int (v5 <<< (6 &&& 31)), .ref 1]) (ins_l hw_28 rfl) rfl (Or.inr rfl) rfl (Nat.le_of_ble_eq_true rfl) (Nat.le_of_ble_eq_true rfl) (PW.mono h ?_)
  rintro _ σ6 ⟨v6, rfl, h⟩
  show PW none 28 52 [some (.ref 1), some (.ref 3), some (.int v1), some (.int v2), some (.int v5)] [.int v6, .int (v5 <<< (6 &&& 31)), .ref 1] σ6 _
  refine PW.runs hw_28 rfl 3 (q := (52, [some (.ref 1), some (.ref 3), some (.int v1), some (.int v2), some (.int v5)], [.int v6, .int (v5 <<< (6 &&& 31)), .ref 1], σ6)) (q' := (55, [some (.ref 1), some (.ref 3), some (.int v1), some (.int v2), some (.int v5)], [.int ((v5 <<< (6 &&& 31)) &&& (v6 ^^^ (-1))), .ref 1], σ6)) rfl ?_
  refine PW.callV (b := 1) (vs := [.int ((v5 <<< (6 &&& 31)) &&& (v6 ^^^ (-1)))]) (rest := []) (ins_l hw_28 rfl) rfl rfl rfl (Nat.le_of_ble_eq_true rfl) (Nat.le_of_ble_eq_true rfl) (PW.mono h ?_)
  rintro _ σ7 ⟨rfl, h⟩
  show PW none 28 58 [some (.ref 1), some (.ref 3), some (.int v1), some (.int v2), some (.int v5)] [] σ7 _
  refine PW.runs hw_28 rfl 1 (q := (58, [some (.ref 1), some (.ref 3), some (.int v1), some (.int v2), some (.int v5)], [], σ7)) (q' := (59, [some (.ref 1), some (.ref 3), some (.int v1), some (.int v2), some (.int v5)], [.ref 1], σ7)) rfl ?_
  refine PW.callV (b := 1) (vs := []) (rest := []) (ins_l hw_28 rfl) rfl rfl rfl (Nat.le_of_ble_eq_true rfl) (Nat.le_of_ble_eq_true rfl) (PW.mono h ?_)
  rintro _ σ8 ⟨rfl, h⟩
  show PW none 28 62 [some (.ref 1), some (.ref 3), some (.int v1), some (.int v2), some (.int v5)] [] σ8 _
  refine PW.runs hw_28 rfl 2 (q := (62, [some (.ref 1), some (.ref 3), some (.int v1), some (.int v2), some (.int v5)], [], σ8)) (q' := (66, [some (.ref 1), some (.ref 3), some (.int v1), some (.int v2), some (.int v5)], [.int (σ8 1 3)], σ8)) rfl ?_
  refine PW.ifc (t := 81) (ins_l hw_28 rfl) rfl (fun hc1 => ?_) (fun hc1 => ?_)
  · replace h := (if_neg (c_neT hc1)).mp h
    exact PW.vret (ins_l hw_28 rfl) rfl ⟨rfl, h⟩
  · replace h := (if_pos (c_neF hc1)).mp h
    refine PW.runs hw_28 rfl 7 (q := (69, [some (.ref 1), some (.ref 3), some (.int v1), some (.int v2), some (.int v5)], [], σ8)) (q' := (78, [some (.ref 1), some (.ref 3), some (.int v1), some (.int v2), some (.int v5)], [.int (v2 ||| (v5 <<< (6 &&& 31))), .int v1, .ref 3], σ8)) rfl ?_
    refine PW.callV (b := 3) (vs := [.int v1, .int (v2 ||| (v5 <<< (6 &&& 31)))]) (rest := []) (ins_l hw_28 rfl) rfl rfl rfl (Nat.le_of_ble_eq_true rfl) (Nat.le_of_ble_eq_true rfl) (PW.mono h ?_)
    rintro _ σ9 ⟨rfl, h⟩
    show PW none 28 81 [some (.ref 1), some (.ref 3), some (.int v1), some (.int v2), some (.int v5)] [] σ9 _
    exact PW.vret (ins_l hw_28 rfl) rfl ⟨rfl, h⟩
theorem hw_29 : pins.getD 29 [] = pi_29 := rfl
/-! MapDuty$Reader.readInspector.(LMapDuty$Plan;)V -/
set_option maxRecDepth 20000 in
theorem w_29  {σ : St} {K : St → Prop} (h : CI 31 [.ref 1, .int 1, .int 12] σ (fun v1 σ1 => CV 32 [.ref 1] σ1 (fun σ2 => (if (σ2 1 3) = 0 then CV 16 [.ref 3, .int v1] σ2 (fun σ3 => K σ3) else K σ2)))) : CV 29 [.ref 1, .ref 3] σ K := by
  show PW none 29 0 [some (.ref 1), some (.ref 3), none] [] σ _
  refine PW.runs hw_29 rfl 3 (q := (0, [some (.ref 1), some (.ref 3), none], [], σ)) (q' := (4, [some (.ref 1), some (.ref 3), none], [.int 12, .int 1, .ref 1], σ)) rfl ?_
  refine PW.callV (b := 1) (vs := [.int 1, .int 12]) (rest := []) (ins_l hw_29 rfl) rfl rfl rfl (Nat.le_of_ble_eq_true rfl) (Nat.le_of_ble_eq_true rfl) (PW.mono h ?_)
  rintro _ σ1 ⟨v1, rfl, h⟩
  show PW none 29 7 [some (.ref 1), some (.ref 3), none] [.int v1] σ1 _
  refine PW.runs hw_29 rfl 2 (q := (7, [some (.ref 1), some (.ref 3), none], [.int v1], σ1)) (q' := (9, [some (.ref 1), some (.ref 3), some (.int v1)], [.ref 1], σ1)) rfl ?_
  refine PW.callV (b := 1) (vs := []) (rest := []) (ins_l hw_29 rfl) rfl rfl rfl (Nat.le_of_ble_eq_true rfl) (Nat.le_of_ble_eq_true rfl) (PW.mono h ?_)
  rintro _ σ2 ⟨rfl, h⟩
  show PW none 29 12 [some (.ref 1), some (.ref 3), some (.int v1)] [] σ2 _
  refine PW.runs hw_29 rfl 2 (q := (12, [some (.ref 1), some (.ref 3), some (.int v1)], [], σ2)) (q' := (16, [some (.ref 1), some (.ref 3), some (.int v1)], [.int (σ2 1 3)], σ2)) rfl ?_
  refine PW.ifc (t := 24) (ins_l hw_29 rfl) rfl (fun hc1 => ?_) (fun hc1 => ?_)
  · replace h := (if_neg (c_neT hc1)).mp h
    exact PW.vret (ins_l hw_29 rfl) rfl ⟨rfl, h⟩
  · replace h := (if_pos (c_neF hc1)).mp h
    refine PW.runs hw_29 rfl 2 (q := (19, [some (.ref 1), some (.ref 3), some (.int v1)], [], σ2)) (q' := (21, [some (.ref 1), some (.ref 3), some (.int v1)], [.int v1, .ref 3], σ2)) rfl ?_
    refine PW.callV (b := 3) (vs := [.int v1]) (rest := []) (ins_l hw_29 rfl) rfl rfl rfl (Nat.le_of_ble_eq_true rfl) (Nat.le_of_ble_eq_true rfl) (PW.mono h ?_)
    rintro _ σ3 ⟨rfl, h⟩
    show PW none 29 24 [some (.ref 1), some (.ref 3), some (.int v1)] [] σ3 _
    exact PW.vret (ins_l hw_29 rfl) rfl ⟨rfl, h⟩
theorem hw_24 : pins.getD 24 [] = pi_24 := rfl
/-! MapDuty$Reader.readClause.(LMapDuty$Plan;)V -/
set_option maxRecDepth 20000 in
theorem w_24  {σ : St} {K : St → Prop} (h : CI 34 [.ref 1] σ (fun v1 σ1 => CI 25 [.ref 3, .int v1] σ1 (fun v2 σ2 => (if v2 = 0 then (if v1 = 108 then CV 27 [.ref 1, .ref 3] (s2 σ2 1 4 ((σ2 1 4) + 1)) (fun σ4 => K σ4) else (if v1 = 109 then CV 28 [.ref 1, .ref 3] (s2 σ2 1 4 ((σ2 1 4) + 1)) (fun σ5 => K σ5) else (if v1 = 110 then CV 26 [.ref 1, .ref 3] (s2 σ2 1 4 ((σ2 1 4) + 1)) (fun σ6 => K σ6) else CV 29 [.ref 1, .ref 3] (s2 σ2 1 4 ((σ2 1 4) + 1)) (fun σ3 => K σ3)))) else CV 36 [.ref 1, .int v2, .int (σ2 1 4)] σ2 (fun σ7 => K σ7))))) : CV 24 [.ref 1, .ref 3] σ K := by
  show PW none 24 0 [some (.ref 1), some (.ref 3), none, none] [] σ _
  refine PW.runs hw_24 rfl 1 (q := (0, [some (.ref 1), some (.ref 3), none, none], [], σ)) (q' := (1, [some (.ref 1), some (.ref 3), none, none], [.ref 1], σ)) rfl ?_
  refine PW.callV (b := 1) (vs := []) (rest := []) (ins_l hw_24 rfl) rfl rfl rfl (Nat.le_of_ble_eq_true rfl) (Nat.le_of_ble_eq_true rfl) (PW.mono h ?_)
  rintro _ σ1 ⟨v1, rfl, h⟩
  show PW none 24 4 [some (.ref 1), some (.ref 3), none, none] [.int v1] σ1 _
  refine PW.runs hw_24 rfl 3 (q := (4, [some (.ref 1), some (.ref 3), none, none], [.int v1], σ1)) (q' := (7, [some (.ref 1), some (.ref 3), some (.int v1), none], [.int v1, .ref 3], σ1)) rfl ?_
  refine PW.callS (vs := [.ref 3, .int v1]) (rest := []) (ins_l hw_24 rfl) rfl (Or.inl rfl) rfl (Nat.le_of_ble_eq_true rfl) (Nat.le_of_ble_eq_true rfl) (PW.mono h ?_)
  rintro _ σ2 ⟨v2, rfl, h⟩
  show PW none 24 10 [some (.ref 1), some (.ref 3), some (.int v1), none] [.int v2] σ2 _
  refine PW.runs hw_24 rfl 2 (q := (10, [some (.ref 1), some (.ref 3), some (.int v1), none], [.int v2], σ2)) (q' := (12, [some (.ref 1), some (.ref 3), some (.int v1), some (.int v2)], [.int v2], σ2)) rfl ?_
  refine PW.ifc (t := 25) (ins_l hw_24 rfl) rfl (fun hc1 => ?_) (fun hc1 => ?_)
  · replace h := (if_pos (c_eqT hc1)).mp h
    refine PW.runs hw_24 rfl 7 (q := (25, [some (.ref 1), some (.ref 3), some (.int v1), some (.int v2)], [], σ2)) (q' := (36, [some (.ref 1), some (.ref 3), some (.int v1), some (.int v2)], [.int v1], (s2 σ2 1 4 ((σ2 1 4) + 1)))) rfl ?_
    by_cases c0 : v1 = 108
    · replace h := (if_pos c0).mp h
      refine PW.tswK (k := 0) (t := 72) (ins_l hw_24 rfl) c0 (by decide) (by decide) rfl rfl ?_
      refine PW.runs hw_24 rfl 2 (q := (72, [some (.ref 1), some (.ref 3), some (.int v1), some (.int v2)], [], (s2 σ2 1 4 ((σ2 1 4) + 1)))) (q' := (74, [some (.ref 1), some (.ref 3), some (.int v1), some (.int v2)], [.ref 3, .ref 1], (s2 σ2 1 4 ((σ2 1 4) + 1)))) rfl ?_
      refine PW.callV (b := 1) (vs := [.ref 3]) (rest := []) (ins_l hw_24 rfl) rfl rfl rfl (Nat.le_of_ble_eq_true rfl) (Nat.le_of_ble_eq_true rfl) (PW.mono h ?_)
      rintro _ σ4 ⟨rfl, h⟩
      show PW none 24 77 [some (.ref 1), some (.ref 3), some (.int v1), some (.int v2)] [] σ4 _
      refine PW.runs hw_24 rfl 1 (q := (77, [some (.ref 1), some (.ref 3), some (.int v1), some (.int v2)], [], σ4)) (q' := (93, [some (.ref 1), some (.ref 3), some (.int v1), some (.int v2)], [], σ4)) rfl ?_
      exact PW.vret (ins_l hw_24 rfl) rfl ⟨rfl, h⟩
    replace h := (if_neg c0).mp h
    by_cases c1 : v1 = 109
    · replace h := (if_pos c1).mp h
      refine PW.tswK (k := 1) (t := 80) (ins_l hw_24 rfl) c1 (by decide) (by decide) rfl rfl ?_
      refine PW.runs hw_24 rfl 2 (q := (80, [some (.ref 1), some (.ref 3), some (.int v1), some (.int v2)], [], (s2 σ2 1 4 ((σ2 1 4) + 1)))) (q' := (82, [some (.ref 1), some (.ref 3), some (.int v1), some (.int v2)], [.ref 3, .ref 1], (s2 σ2 1 4 ((σ2 1 4) + 1)))) rfl ?_
      refine PW.callV (b := 1) (vs := [.ref 3]) (rest := []) (ins_l hw_24 rfl) rfl rfl rfl (Nat.le_of_ble_eq_true rfl) (Nat.le_of_ble_eq_true rfl) (PW.mono h ?_)
      rintro _ σ5 ⟨rfl, h⟩
      show PW none 24 85 [some (.ref 1), some (.ref 3), some (.int v1), some (.int v2)] [] σ5 _
      refine PW.runs hw_24 rfl 1 (q := (85, [some (.ref 1), some (.ref 3), some (.int v1), some (.int v2)], [], σ5)) (q' := (93, [some (.ref 1), some (.ref 3), some (.int v1), some (.int v2)], [], σ5)) rfl ?_
      exact PW.vret (ins_l hw_24 rfl) rfl ⟨rfl, h⟩
    replace h := (if_neg c1).mp h
    by_cases c2 : v1 = 110
    · replace h := (if_pos c2).mp h
      refine PW.tswK (k := 2) (t := 64) (ins_l hw_24 rfl) c2 (by decide) (by decide) rfl rfl ?_
      refine PW.runs hw_24 rfl 2 (q := (64, [some (.ref 1), some (.ref 3), some (.int v1), some (.int v2)], [], (s2 σ2 1 4 ((σ2 1 4) + 1)))) (q' := (66, [some (.ref 1), some (.ref 3), some (.int v1), some (.int v2)], [.ref 3, .ref 1], (s2 σ2 1 4 ((σ2 1 4) + 1)))) rfl ?_
      refine PW.callV (b := 1) (vs := [.ref 3]) (rest := []) (ins_l hw_24 rfl) rfl rfl rfl (Nat.le_of_ble_eq_true rfl) (Nat.le_of_ble_eq_true rfl) (PW.mono h ?_)
      rintro _ σ6 ⟨rfl, h⟩
      show PW none 24 69 [some (.ref 1), some (.ref 3), some (.int v1), some (.int v2)] [] σ6 _
      refine PW.runs hw_24 rfl 1 (q := (69, [some (.ref 1), some (.ref 3), some (.int v1), some (.int v2)], [], σ6)) (q' := (93, [some (.ref 1), some (.ref 3), some (.int v1), some (.int v2)], [], σ6)) rfl ?_
      exact PW.vret (ins_l hw_24 rfl) rfl ⟨rfl, h⟩
    replace h := (if_neg c2).mp h
    have hD : PV 24 88 [some (.ref 1), some (.ref 3), some (.int v1), some (.int v2)] [] (s2 σ2 1 4 ((σ2 1 4) + 1)) K := by
      refine PW.runs hw_24 rfl 2 (q := (88, [some (.ref 1), some (.ref 3), some (.int v1), some (.int v2)], [], (s2 σ2 1 4 ((σ2 1 4) + 1)))) (q' := (90, [some (.ref 1), some (.ref 3), some (.int v1), some (.int v2)], [.ref 3, .ref 1], (s2 σ2 1 4 ((σ2 1 4) + 1)))) rfl ?_
      refine PW.callV (b := 1) (vs := [.ref 3]) (rest := []) (ins_l hw_24 rfl) rfl rfl rfl (Nat.le_of_ble_eq_true rfl) (Nat.le_of_ble_eq_true rfl) (PW.mono h ?_)
      rintro _ σ3 ⟨rfl, h⟩
      show PW none 24 93 [some (.ref 1), some (.ref 3), some (.int v1), some (.int v2)] [] σ3 _
      exact PW.vret (ins_l hw_24 rfl) rfl ⟨rfl, h⟩
    refine PW.tswD (t := 88) (ins_l hw_24 rfl) ?_ rfl hD
    have zc0 := tne c0 (k := 108) rfl
    have zc1 := tne c1 (k := 109) rfl
    have zc2 := tne c2 (k := 110) rfl
    omega
  · replace h := (if_neg (c_eqF hc1)).mp h
    refine PW.runs hw_24 rfl 4 (q := (15, [some (.ref 1), some (.ref 3), some (.int v1), some (.int v2)], [], σ2)) (q' := (21, [some (.ref 1), some (.ref 3), some (.int v1), some (.int v2)], [.int (σ2 1 4), .int v2, .ref 1], σ2)) rfl ?_
    refine PW.callV (b := 1) (vs := [.int v2, .int (σ2 1 4)]) (rest := []) (ins_l hw_24 rfl) rfl rfl rfl (Nat.le_of_ble_eq_true rfl) (Nat.le_of_ble_eq_true rfl) (PW.mono h ?_)
    rintro _ σ7 ⟨rfl, h⟩
    show PW none 24 24 [some (.ref 1), some (.ref 3), some (.int v1), some (.int v2)] [] σ7 _
    exact PW.vret (ins_l hw_24 rfl) rfl ⟨rfl, h⟩
theorem hw_23 : pins.getD 23 [] = pi_23 := rfl
/-! MapDuty$Reader.readInto.(LMapDuty$Plan;)I -/
set_option maxRecDepth 20000 in
theorem w_23  {σ : St} {K : Int32 → St → Prop} (h : CV 12 [.ref 3] (s2 (s2 (s2 σ 1 4 0) 1 3 0) 1 2 (-1)) (fun σ1 => CV 33 [.ref 1] σ1 (fun σ2 => PI 23 25 [some (.ref 1), some (.ref 3), some (.int 0)] [] σ2 K))) : CI 23 [.ref 1, .ref 3] σ K := by
  show PW none 23 0 [some (.ref 1), some (.ref 3), none] [] σ _
  refine PW.runs hw_23 rfl 10 (q := (0, [some (.ref 1), some (.ref 3), none], [], σ)) (q' := (16, [some (.ref 1), some (.ref 3), none], [.ref 3], (s2 (s2 (s2 σ 1 4 0) 1 3 0) 1 2 (-1)))) rfl ?_
  refine PW.callV (b := 3) (vs := []) (rest := []) (ins_l hw_23 rfl) rfl rfl rfl (Nat.le_of_ble_eq_true rfl) (Nat.le_of_ble_eq_true rfl) (PW.mono h ?_)
  rintro _ σ1 ⟨rfl, h⟩
  show PW none 23 19 [some (.ref 1), some (.ref 3), none] [] σ1 _
  refine PW.runs hw_23 rfl 1 (q := (19, [some (.ref 1), some (.ref 3), none], [], σ1)) (q' := (20, [some (.ref 1), some (.ref 3), none], [.ref 1], σ1)) rfl ?_
  refine PW.callV (b := 1) (vs := []) (rest := []) (ins_l hw_23 rfl) rfl rfl rfl (Nat.le_of_ble_eq_true rfl) (Nat.le_of_ble_eq_true rfl) (PW.mono h ?_)
  rintro _ σ2 ⟨rfl, h⟩
  show PW none 23 23 [some (.ref 1), some (.ref 3), none] [] σ2 _
  refine PW.runs hw_23 rfl 2 (q := (23, [some (.ref 1), some (.ref 3), none], [], σ2)) (q' := (25, [some (.ref 1), some (.ref 3), some (.int 0)], [], σ2)) rfl ?_
  exact h
set_option maxRecDepth 20000 in
theorem w_23_25 {x2 : Int32} {σ : St} {K : Int32 → St → Prop} (h : (if 240 ≤ x2 then K (σ 1 3) (s2 σ 1 1 0) else (if (σ 1 1) ≤ (σ 1 4) then K (σ 1 3) (s2 σ 1 1 0) else (if (σ 1 3) = 0 then CV 24 [.ref 1, .ref 3] σ (fun σ1 => CV 33 [.ref 1] σ1 (fun σ2 => PI 23 25 [some (.ref 1), some (.ref 3), some (.int (x2 + 1))] [] σ2 K)) else K (σ 1 3) (s2 σ 1 1 0))))) : PI 23 25 [some (.ref 1), some (.ref 3), some (.int x2)] [] σ K := by
  show PW none 23 25 [some (.ref 1), some (.ref 3), some (.int x2)] [] σ _
  refine PW.runs hw_23 rfl 2 (q := (25, [some (.ref 1), some (.ref 3), some (.int x2)], [], σ)) (q' := (29, [some (.ref 1), some (.ref 3), some (.int x2)], [.int 240, .int x2], σ)) rfl ?_
  refine PW.icm (t := 65) (ins_l hw_23 rfl) rfl (fun hc1 => ?_) (fun hc1 => ?_)
  · replace h := (if_pos (c_geT hc1)).mp h
    refine PW.runs hw_23 rfl 5 (q := (65, [some (.ref 1), some (.ref 3), some (.int x2)], [], σ)) (q' := (74, [some (.ref 1), some (.ref 3), some (.int x2)], [.int (σ 1 3)], (s2 σ 1 1 0))) rfl ?_
    exact PW.iret (ins_l hw_23 rfl) (Or.inl rfl) ⟨_, rfl, h⟩
  · replace h := (if_neg (c_geF hc1)).mp h
    refine PW.runs hw_23 rfl 4 (q := (32, [some (.ref 1), some (.ref 3), some (.int x2)], [], σ)) (q' := (40, [some (.ref 1), some (.ref 3), some (.int x2)], [.int (σ 1 1), .int (σ 1 4)], σ)) rfl ?_
    refine PW.icm (t := 65) (ins_l hw_23 rfl) rfl (fun hc2 => ?_) (fun hc2 => ?_)
    · replace h := (if_pos (c_geT hc2)).mp h
      refine PW.runs hw_23 rfl 5 (q := (65, [some (.ref 1), some (.ref 3), some (.int x2)], [], σ)) (q' := (74, [some (.ref 1), some (.ref 3), some (.int x2)], [.int (σ 1 3)], (s2 σ 1 1 0))) rfl ?_
      exact PW.iret (ins_l hw_23 rfl) (Or.inl rfl) ⟨_, rfl, h⟩
    · replace h := (if_neg (c_geF hc2)).mp h
      refine PW.runs hw_23 rfl 2 (q := (43, [some (.ref 1), some (.ref 3), some (.int x2)], [], σ)) (q' := (47, [some (.ref 1), some (.ref 3), some (.int x2)], [.int (σ 1 3)], σ)) rfl ?_
      refine PW.ifc (t := 65) (ins_l hw_23 rfl) rfl (fun hc3 => ?_) (fun hc3 => ?_)
      · replace h := (if_neg (c_neT hc3)).mp h
        refine PW.runs hw_23 rfl 5 (q := (65, [some (.ref 1), some (.ref 3), some (.int x2)], [], σ)) (q' := (74, [some (.ref 1), some (.ref 3), some (.int x2)], [.int (σ 1 3)], (s2 σ 1 1 0))) rfl ?_
        exact PW.iret (ins_l hw_23 rfl) (Or.inl rfl) ⟨_, rfl, h⟩
      · replace h := (if_pos (c_neF hc3)).mp h
        refine PW.runs hw_23 rfl 2 (q := (50, [some (.ref 1), some (.ref 3), some (.int x2)], [], σ)) (q' := (52, [some (.ref 1), some (.ref 3), some (.int x2)], [.ref 3, .ref 1], σ)) rfl ?_
        refine PW.callV (b := 1) (vs := [.ref 3]) (rest := []) (ins_l hw_23 rfl) rfl rfl rfl (Nat.le_of_ble_eq_true rfl) (Nat.le_of_ble_eq_true rfl) (PW.mono h ?_)
        rintro _ σ1 ⟨rfl, h⟩
        show PW none 23 55 [some (.ref 1), some (.ref 3), some (.int x2)] [] σ1 _
        refine PW.runs hw_23 rfl 1 (q := (55, [some (.ref 1), some (.ref 3), some (.int x2)], [], σ1)) (q' := (56, [some (.ref 1), some (.ref 3), some (.int x2)], [.ref 1], σ1)) rfl ?_
        refine PW.callV (b := 1) (vs := []) (rest := []) (ins_l hw_23 rfl) rfl rfl rfl (Nat.le_of_ble_eq_true rfl) (Nat.le_of_ble_eq_true rfl) (PW.mono h ?_)
        rintro _ σ2 ⟨rfl, h⟩
        show PW none 23 59 [some (.ref 1), some (.ref 3), some (.int x2)] [] σ2 _
        refine PW.runs hw_23 rfl 2 (q := (59, [some (.ref 1), some (.ref 3), some (.int x2)], [], σ2)) (q' := (25, [some (.ref 1), some (.ref 3), some (.int (x2 + 1))], [], σ2)) rfl ?_
        exact h
theorem hw_17 : pins.getD 17 [] = pi_17 := rfl
/-! MapDuty$Plan.joins.(II)Z -/
set_option maxRecDepth 20000 in
theorem w_17 {a : Int32} {b : Int32} {σ : St} {K : Int32 → St → Prop} (h : PI 17 2 [some (.ref 3), some (.int a), some (.int b), some (.int 0)] [] σ K) : CI 17 [.ref 3, .int a, .int b] σ K := by
  show PW none 17 0 [some (.ref 3), some (.int a), some (.int b), none] [] σ _
  refine PW.runs hw_17 rfl 2 (q := (0, [some (.ref 3), some (.int a), some (.int b), none], [], σ)) (q' := (2, [some (.ref 3), some (.int a), some (.int b), some (.int 0)], [], σ)) rfl ?_
  exact h
set_option maxRecDepth 20000 in
theorem w_17_2 {a : Int32} {b : Int32} {x3 : Int32} {σ : St} {K : Int32 → St → Prop} (h : (if (σ 3 1) ≤ x3 then K 0 σ else ((0 ≤ x3.toInt ∧ x3.toInt < 12) ∧ (if (σ 4 (Int32.toNatClampNeg x3)) = a then (if (σ 5 (Int32.toNatClampNeg x3)) = b then K 1 σ else (if (σ 4 (Int32.toNatClampNeg x3)) = b then (if (σ 5 (Int32.toNatClampNeg x3)) = a then K 1 σ else PI 17 2 [some (.ref 3), some (.int a), some (.int b), some (.int (x3 + 1))] [] σ K) else PI 17 2 [some (.ref 3), some (.int a), some (.int b), some (.int (x3 + 1))] [] σ K)) else (if (σ 4 (Int32.toNatClampNeg x3)) = b then (if (σ 5 (Int32.toNatClampNeg x3)) = a then K 1 σ else PI 17 2 [some (.ref 3), some (.int a), some (.int b), some (.int (x3 + 1))] [] σ K) else PI 17 2 [some (.ref 3), some (.int a), some (.int b), some (.int (x3 + 1))] [] σ K))))) : PI 17 2 [some (.ref 3), some (.int a), some (.int b), some (.int x3)] [] σ K := by
  show PW none 17 2 [some (.ref 3), some (.int a), some (.int b), some (.int x3)] [] σ _
  refine PW.runs hw_17 rfl 3 (q := (2, [some (.ref 3), some (.int a), some (.int b), some (.int x3)], [], σ)) (q' := (7, [some (.ref 3), some (.int a), some (.int b), some (.int x3)], [.int (σ 3 1), .int x3], σ)) rfl ?_
  refine PW.icm (t := 58) (ins_l hw_17 rfl) rfl (fun hc1 => ?_) (fun hc1 => ?_)
  · replace h := (if_pos (c_geT hc1)).mp h
    refine PW.runs hw_17 rfl 1 (q := (58, [some (.ref 3), some (.int a), some (.int b), some (.int x3)], [], σ)) (q' := (59, [some (.ref 3), some (.int a), some (.int b), some (.int x3)], [.int 0], σ)) rfl ?_
    exact PW.iret (ins_l hw_17 rfl) (Or.inr ⟨rfl, by decide⟩) ⟨_, rfl, h⟩
  · replace h := (if_neg (c_geF hc1)).mp h
    refine PW.runs hw_17 rfl 3 (q := (10, [some (.ref 3), some (.int a), some (.int b), some (.int x3)], [], σ)) (q' := (15, [some (.ref 3), some (.int a), some (.int b), some (.int x3)], [.int x3, .ref 4], σ)) rfl ?_
    obtain ⟨hb1, h⟩ := h
    refine PW.iald (n := 12) (ins_l hw_17 rfl) rfl (idx_in hb1.1 hb1.2).1 ?_
    refine PW.runs hw_17 rfl 1 (q := (16, [some (.ref 3), some (.int a), some (.int b), some (.int x3)], [.int (σ 4 (Int32.toNatClampNeg x3))], σ)) (q' := (17, [some (.ref 3), some (.int a), some (.int b), some (.int x3)], [.int a, .int (σ 4 (Int32.toNatClampNeg x3))], σ)) rfl ?_
    refine PW.icm (t := 30) (ins_l hw_17 rfl) rfl (fun hc2 => ?_) (fun hc2 => ?_)
    · replace h := (if_neg (c_neT hc2)).mp h
      refine PW.runs hw_17 rfl 3 (q := (30, [some (.ref 3), some (.int a), some (.int b), some (.int x3)], [], σ)) (q' := (35, [some (.ref 3), some (.int a), some (.int b), some (.int x3)], [.int x3, .ref 4], σ)) rfl ?_
      refine PW.iald (n := 12) (ins_l hw_17 rfl) rfl (idx_in hb1.1 hb1.2).1 ?_
      refine PW.runs hw_17 rfl 1 (q := (36, [some (.ref 3), some (.int a), some (.int b), some (.int x3)], [.int (σ 4 (Int32.toNatClampNeg x3))], σ)) (q' := (37, [some (.ref 3), some (.int a), some (.int b), some (.int x3)], [.int b, .int (σ 4 (Int32.toNatClampNeg x3))], σ)) rfl ?_
      refine PW.icm (t := 52) (ins_l hw_17 rfl) rfl (fun hc3 => ?_) (fun hc3 => ?_)
      · replace h := (if_neg (c_neT hc3)).mp h
        refine PW.runs hw_17 rfl 2 (q := (52, [some (.ref 3), some (.int a), some (.int b), some (.int x3)], [], σ)) (q' := (2, [some (.ref 3), some (.int a), some (.int b), some (.int (x3 + 1))], [], σ)) rfl ?_
        exact h
      · replace h := (if_pos (c_neF hc3)).mp h
        refine PW.runs hw_17 rfl 3 (q := (40, [some (.ref 3), some (.int a), some (.int b), some (.int x3)], [], σ)) (q' := (45, [some (.ref 3), some (.int a), some (.int b), some (.int x3)], [.int x3, .ref 5], σ)) rfl ?_
        refine PW.iald (n := 12) (ins_l hw_17 rfl) rfl (idx_in hb1.1 hb1.2).1 ?_
        refine PW.runs hw_17 rfl 1 (q := (46, [some (.ref 3), some (.int a), some (.int b), some (.int x3)], [.int (σ 5 (Int32.toNatClampNeg x3))], σ)) (q' := (47, [some (.ref 3), some (.int a), some (.int b), some (.int x3)], [.int a, .int (σ 5 (Int32.toNatClampNeg x3))], σ)) rfl ?_
        refine PW.icm (t := 52) (ins_l hw_17 rfl) rfl (fun hc4 => ?_) (fun hc4 => ?_)
        · replace h := (if_neg (c_neT hc4)).mp h
          refine PW.runs hw_17 rfl 2 (q := (52, [some (.ref 3), some (.int a), some (.int b), some (.int x3)], [], σ)) (q' := (2, [some (.ref 3), some (.int a), some (.int b), some (.int (x3 + 1))], [], σ)) rfl ?_
          exact h
        · replace h := (if_pos (c_neF hc4)).mp h
          refine PW.runs hw_17 rfl 1 (q := (50, [some (.ref 3), some (.int a), some (.int b), some (.int x3)], [], σ)) (q' := (51, [some (.ref 3), some (.int a), some (.int b), some (.int x3)], [.int 1], σ)) rfl ?_
          exact PW.iret (ins_l hw_17 rfl) (Or.inr ⟨rfl, by decide⟩) ⟨_, rfl, h⟩
    · replace h := (if_pos (c_neF hc2)).mp h
      refine PW.runs hw_17 rfl 3 (q := (20, [some (.ref 3), some (.int a), some (.int b), some (.int x3)], [], σ)) (q' := (25, [some (.ref 3), some (.int a), some (.int b), some (.int x3)], [.int x3, .ref 5], σ)) rfl ?_
      refine PW.iald (n := 12) (ins_l hw_17 rfl) rfl (idx_in hb1.1 hb1.2).1 ?_
      refine PW.runs hw_17 rfl 1 (q := (26, [some (.ref 3), some (.int a), some (.int b), some (.int x3)], [.int (σ 5 (Int32.toNatClampNeg x3))], σ)) (q' := (27, [some (.ref 3), some (.int a), some (.int b), some (.int x3)], [.int b, .int (σ 5 (Int32.toNatClampNeg x3))], σ)) rfl ?_
      refine PW.icm (t := 50) (ins_l hw_17 rfl) rfl (fun hc3 => ?_) (fun hc3 => ?_)
      · replace h := (if_pos (c_eqT hc3)).mp h
        refine PW.runs hw_17 rfl 1 (q := (50, [some (.ref 3), some (.int a), some (.int b), some (.int x3)], [], σ)) (q' := (51, [some (.ref 3), some (.int a), some (.int b), some (.int x3)], [.int 1], σ)) rfl ?_
        exact PW.iret (ins_l hw_17 rfl) (Or.inr ⟨rfl, by decide⟩) ⟨_, rfl, h⟩
      · replace h := (if_neg (c_eqF hc3)).mp h
        refine PW.runs hw_17 rfl 3 (q := (30, [some (.ref 3), some (.int a), some (.int b), some (.int x3)], [], σ)) (q' := (35, [some (.ref 3), some (.int a), some (.int b), some (.int x3)], [.int x3, .ref 4], σ)) rfl ?_
        refine PW.iald (n := 12) (ins_l hw_17 rfl) rfl (idx_in hb1.1 hb1.2).1 ?_
        refine PW.runs hw_17 rfl 1 (q := (36, [some (.ref 3), some (.int a), some (.int b), some (.int x3)], [.int (σ 4 (Int32.toNatClampNeg x3))], σ)) (q' := (37, [some (.ref 3), some (.int a), some (.int b), some (.int x3)], [.int b, .int (σ 4 (Int32.toNatClampNeg x3))], σ)) rfl ?_
        refine PW.icm (t := 52) (ins_l hw_17 rfl) rfl (fun hc4 => ?_) (fun hc4 => ?_)
        · replace h := (if_neg (c_neT hc4)).mp h
          refine PW.runs hw_17 rfl 2 (q := (52, [some (.ref 3), some (.int a), some (.int b), some (.int x3)], [], σ)) (q' := (2, [some (.ref 3), some (.int a), some (.int b), some (.int (x3 + 1))], [], σ)) rfl ?_
          exact h
        · replace h := (if_pos (c_neF hc4)).mp h
          refine PW.runs hw_17 rfl 3 (q := (40, [some (.ref 3), some (.int a), some (.int b), some (.int x3)], [], σ)) (q' := (45, [some (.ref 3), some (.int a), some (.int b), some (.int x3)], [.int x3, .ref 5], σ)) rfl ?_
          refine PW.iald (n := 12) (ins_l hw_17 rfl) rfl (idx_in hb1.1 hb1.2).1 ?_
          refine PW.runs hw_17 rfl 1 (q := (46, [some (.ref 3), some (.int a), some (.int b), some (.int x3)], [.int (σ 5 (Int32.toNatClampNeg x3))], σ)) (q' := (47, [some (.ref 3), some (.int a), some (.int b), some (.int x3)], [.int a, .int (σ 5 (Int32.toNatClampNeg x3))], σ)) rfl ?_
          refine PW.icm (t := 52) (ins_l hw_17 rfl) rfl (fun hc5 => ?_) (fun hc5 => ?_)
          · replace h := (if_neg (c_neT hc5)).mp h
            refine PW.runs hw_17 rfl 2 (q := (52, [some (.ref 3), some (.int a), some (.int b), some (.int x3)], [], σ)) (q' := (2, [some (.ref 3), some (.int a), some (.int b), some (.int (x3 + 1))], [], σ)) rfl ?_
            exact h
          · replace h := (if_pos (c_neF hc5)).mp h
            refine PW.runs hw_17 rfl 1 (q := (50, [some (.ref 3), some (.int a), some (.int b), some (.int x3)], [], σ)) (q' := (51, [some (.ref 3), some (.int a), some (.int b), some (.int x3)], [.int 1], σ)) rfl ?_
            exact PW.iret (ins_l hw_17 rfl) (Or.inr ⟨rfl, by decide⟩) ⟨_, rfl, h⟩
theorem hw_18 : pins.getD 18 [] = pi_18 := rfl
/-! MapDuty$Plan.worthOf.(I)I -/
set_option maxRecDepth 20000 in
theorem w_18 {a : Int32} {σ : St} {K : Int32 → St → Prop} (h : (if a < 0 then K 0 σ else (if 12 ≤ a then K 0 σ else ((0 ≤ a.toInt ∧ a.toInt < 12) ∧ K (σ 6 (Int32.toNatClampNeg a)) σ)))) : CI 18 [.ref 3, .int a] σ K := by
  show PW none 18 0 [some (.ref 3), some (.int a)] [] σ _
  refine PW.runs hw_18 rfl 1 (q := (0, [some (.ref 3), some (.int a)], [], σ)) (q' := (1, [some (.ref 3), some (.int a)], [.int a], σ)) rfl ?_
  refine PW.ifc (t := 19) (ins_l hw_18 rfl) rfl (fun hc1 => ?_) (fun hc1 => ?_)
  · replace h := (if_pos (c_ltT hc1)).mp h
    refine PW.runs hw_18 rfl 1 (q := (19, [some (.ref 3), some (.int a)], [], σ)) (q' := (20, [some (.ref 3), some (.int a)], [.int 0], σ)) rfl ?_
    exact PW.iret (ins_l hw_18 rfl) (Or.inl rfl) ⟨_, rfl, h⟩
  · replace h := (if_neg (c_ltF hc1)).mp h
    refine PW.runs hw_18 rfl 2 (q := (4, [some (.ref 3), some (.int a)], [], σ)) (q' := (7, [some (.ref 3), some (.int a)], [.int 12, .int a], σ)) rfl ?_
    refine PW.icm (t := 19) (ins_l hw_18 rfl) rfl (fun hc2 => ?_) (fun hc2 => ?_)
    · replace h := (if_pos (c_geT hc2)).mp h
      refine PW.runs hw_18 rfl 1 (q := (19, [some (.ref 3), some (.int a)], [], σ)) (q' := (20, [some (.ref 3), some (.int a)], [.int 0], σ)) rfl ?_
      exact PW.iret (ins_l hw_18 rfl) (Or.inl rfl) ⟨_, rfl, h⟩
    · replace h := (if_neg (c_geF hc2)).mp h
      refine PW.runs hw_18 rfl 3 (q := (10, [some (.ref 3), some (.int a)], [], σ)) (q' := (15, [some (.ref 3), some (.int a)], [.int a, .ref 6], σ)) rfl ?_
      obtain ⟨hb1, h⟩ := h
      refine PW.iald (n := 12) (ins_l hw_18 rfl) rfl (idx_in hb1.1 hb1.2).1 ?_
      refine PW.runs hw_18 rfl 1 (q := (16, [some (.ref 3), some (.int a)], [.int (σ 6 (Int32.toNatClampNeg a))], σ)) (q' := (20, [some (.ref 3), some (.int a)], [.int (σ 6 (Int32.toNatClampNeg a))], σ)) rfl ?_
      exact PW.iret (ins_l hw_18 rfl) (Or.inl rfl) ⟨_, rfl, h⟩
theorem hw_14 : pins.getD 14 [] = pi_14 := rfl
/-! MapDuty$Plan.addLine.(IIII)V -/
set_option maxRecDepth 20000 in
theorem w_14 {a : Int32} {b : Int32} {c : Int32} {e : Int32} {σ : St} {K : St → Prop} (h : (if (σ 3 1) < 12 then PV 14 16 [some (.ref 3), some (.int a), some (.int b), some (.int c), some (.int e), some (.int (σ 3 1))] [] σ K else K σ)) : CV 14 [.ref 3, .int a, .int b, .int c, .int e] σ K := by
  show PW none 14 0 [some (.ref 3), some (.int a), some (.int b), some (.int c), some (.int e), none] [] σ _
  refine PW.runs hw_14 rfl 3 (q := (0, [some (.ref 3), some (.int a), some (.int b), some (.int c), some (.int e), none], [], σ)) (q' := (6, [some (.ref 3), some (.int a), some (.int b), some (.int c), some (.int e), none], [.int 12, .int (σ 3 1)], σ)) rfl ?_
  refine PW.icm (t := 10) (ins_l hw_14 rfl) rfl (fun hc1 => ?_) (fun hc1 => ?_)
  · replace h := (if_pos (c_ltT hc1)).mp h
    refine PW.runs hw_14 rfl 3 (q := (10, [some (.ref 3), some (.int a), some (.int b), some (.int c), some (.int e), none], [], σ)) (q' := (16, [some (.ref 3), some (.int a), some (.int b), some (.int c), some (.int e), some (.int (σ 3 1))], [], σ)) rfl ?_
    exact h
  · replace h := (if_neg (c_ltF hc1)).mp h
    exact PW.vret (ins_l hw_14 rfl) rfl ⟨rfl, h⟩
set_option maxRecDepth 20000 in
theorem w_14_16 {a : Int32} {b : Int32} {c : Int32} {e : Int32} {x5 : Int32} {σ : St} {K : St → Prop} (h : (if x5 ≤ 0 then ((0 ≤ x5.toInt ∧ x5.toInt < 12) ∧ ((0 ≤ (σ 3 1).toInt ∧ (σ 3 1).toInt < 12) ∧ K (s2 (s2 (s2 (s2 (s2 (s2 σ 7 (Int32.toNatClampNeg x5) (σ 3 1)) 4 (Int32.toNatClampNeg (σ 3 1)) a) 5 (Int32.toNatClampNeg (σ 3 1)) b) 6 (Int32.toNatClampNeg (σ 3 1)) e) 3 4 ((σ 3 4) ||| (c <<< ((σ 3 1) &&& 31)))) 3 1 ((σ 3 1) + 1)))) else ((0 ≤ (x5 - 1).toInt ∧ (x5 - 1).toInt < 12) ∧ CI 18 [.ref 3, .int (σ 7 (Int32.toNatClampNeg (x5 - 1)))] σ (fun v1 σ1 => (if e ≤ v1 then ((0 ≤ x5.toInt ∧ x5.toInt < 12) ∧ ((0 ≤ (σ1 3 1).toInt ∧ (σ1 3 1).toInt < 12) ∧ K (s2 (s2 (s2 (s2 (s2 (s2 σ1 7 (Int32.toNatClampNeg x5) (σ1 3 1)) 4 (Int32.toNatClampNeg (σ1 3 1)) a) 5 (Int32.toNatClampNeg (σ1 3 1)) b) 6 (Int32.toNatClampNeg (σ1 3 1)) e) 3 4 ((σ1 3 4) ||| (c <<< ((σ1 3 1) &&& 31)))) 3 1 ((σ1 3 1) + 1)))) else ((0 ≤ x5.toInt ∧ x5.toInt < 12) ∧ PV 14 16 [some (.ref 3), some (.int a), some (.int b), some (.int c), some (.int e), some (.int (x5 + (-1)))] [] (s2 σ1 7 (Int32.toNatClampNeg x5) (σ1 7 (Int32.toNatClampNeg (x5 - 1)))) K)))))) : PV 14 16 [some (.ref 3), some (.int a), some (.int b), some (.int c), some (.int e), some (.int x5)] [] σ K := by
  show PW none 14 16 [some (.ref 3), some (.int a), some (.int b), some (.int c), some (.int e), some (.int x5)] [] σ _
  refine PW.runs hw_14 rfl 1 (q := (16, [some (.ref 3), some (.int a), some (.int b), some (.int c), some (.int e), some (.int x5)], [], σ)) (q' := (18, [some (.ref 3), some (.int a), some (.int b), some (.int c), some (.int e), some (.int x5)], [.int x5], σ)) rfl ?_
  refine PW.ifc (t := 61) (ins_l hw_14 rfl) rfl (fun hc1 => ?_) (fun hc1 => ?_)
  · replace h := (if_pos (c_leT hc1)).mp h
    refine PW.runs hw_14 rfl 5 (q := (61, [some (.ref 3), some (.int a), some (.int b), some (.int c), some (.int e), some (.int x5)], [], σ)) (q' := (71, [some (.ref 3), some (.int a), some (.int b), some (.int c), some (.int e), some (.int x5)], [.int (σ 3 1), .int x5, .ref 7], σ)) rfl ?_
    obtain ⟨hb1, h⟩ := h
    refine PW.iast (n := 12) (ins_l hw_14 rfl) rfl (idx_in hb1.1 hb1.2).1 ?_
    refine PW.runs hw_14 rfl 5 (q := (72, [some (.ref 3), some (.int a), some (.int b), some (.int c), some (.int e), some (.int x5)], [], (s2 σ 7 (Int32.toNatClampNeg x5) (σ 3 1)))) (q' := (81, [some (.ref 3), some (.int a), some (.int b), some (.int c), some (.int e), some (.int x5)], [.int a, .int (σ 3 1), .ref 4], (s2 σ 7 (Int32.toNatClampNeg x5) (σ 3 1)))) rfl ?_
    obtain ⟨hb2, h⟩ := h
    refine PW.iast (n := 12) (ins_l hw_14 rfl) rfl (idx_in hb2.1 hb2.2).1 ?_
    refine PW.runs hw_14 rfl 5 (q := (82, [some (.ref 3), some (.int a), some (.int b), some (.int c), some (.int e), some (.int x5)], [], (s2 (s2 σ 7 (Int32.toNatClampNeg x5) (σ 3 1)) 4 (Int32.toNatClampNeg (σ 3 1)) a))) (q' := (91, [some (.ref 3), some (.int a), some (.int b), some (.int c), some (.int e), some (.int x5)], [.int b, .int (σ 3 1), .ref 5], (s2 (s2 σ 7 (Int32.toNatClampNeg x5) (σ 3 1)) 4 (Int32.toNatClampNeg (σ 3 1)) a))) rfl ?_
    refine PW.iast (n := 12) (ins_l hw_14 rfl) rfl (idx_in hb2.1 hb2.2).1 ?_
    refine PW.runs hw_14 rfl 5 (q := (92, [some (.ref 3), some (.int a), some (.int b), some (.int c), some (.int e), some (.int x5)], [], (s2 (s2 (s2 σ 7 (Int32.toNatClampNeg x5) (σ 3 1)) 4 (Int32.toNatClampNeg (σ 3 1)) a) 5 (Int32.toNatClampNeg (σ 3 1)) b))) (q' := (102, [some (.ref 3), some (.int a), some (.int b), some (.int c), some (.int e), some (.int x5)], [.int e, .int (σ 3 1), .ref 6], (s2 (s2 (s2 σ 7 (Int32.toNatClampNeg x5) (σ 3 1)) 4 (Int32.toNatClampNeg (σ 3 1)) a) 5 (Int32.toNatClampNeg (σ 3 1)) b))) rfl ?_
    refine PW.iast (n := 12) (ins_l hw_14 rfl) rfl (idx_in hb2.1 hb2.2).1 ?_
    refine PW.runs hw_14 rfl 15 (q := (103, [some (.ref 3), some (.int a), some (.int b), some (.int c), some (.int e), some (.int x5)], [], (s2 (s2 (s2 (s2 σ 7 (Int32.toNatClampNeg x5) (σ 3 1)) 4 (Int32.toNatClampNeg (σ 3 1)) a) 5 (Int32.toNatClampNeg (σ 3 1)) b) 6 (Int32.toNatClampNeg (σ 3 1)) e))) (q' := (128, [some (.ref 3), some (.int a), some (.int b), some (.int c), some (.int e), some (.int x5)], [], (s2 (s2 (s2 (s2 (s2 (s2 σ 7 (Int32.toNatClampNeg x5) (σ 3 1)) 4 (Int32.toNatClampNeg (σ 3 1)) a) 5 (Int32.toNatClampNeg (σ 3 1)) b) 6 (Int32.toNatClampNeg (σ 3 1)) e) 3 4 ((σ 3 4) ||| (c <<< ((σ 3 1) &&& 31)))) 3 1 ((σ 3 1) + 1)))) rfl ?_
    exact PW.vret (ins_l hw_14 rfl) rfl ⟨rfl, h⟩
  · replace h := (if_neg (c_leF hc1)).mp h
    refine PW.runs hw_14 rfl 6 (q := (21, [some (.ref 3), some (.int a), some (.int b), some (.int c), some (.int e), some (.int x5)], [], σ)) (q' := (30, [some (.ref 3), some (.int a), some (.int b), some (.int c), some (.int e), some (.int x5)], [.int (x5 - 1), .ref 7, .ref 3], σ)) rfl ?_
    obtain ⟨hb1, h⟩ := h
    refine PW.iald (n := 12) (ins_l hw_14 rfl) rfl (idx_in hb1.1 hb1.2).1 ?_
    refine PW.callV (b := 3) (vs := [.int (σ 7 (Int32.toNatClampNeg (x5 - 1)))]) (rest := []) (ins_l hw_14 rfl) rfl rfl rfl (Nat.le_of_ble_eq_true rfl) (Nat.le_of_ble_eq_true rfl) (PW.mono h ?_)
    rintro _ σ1 ⟨v1, rfl, h⟩
    show PW none 14 34 [some (.ref 3), some (.int a), some (.int b), some (.int c), some (.int e), some (.int x5)] [.int v1] σ1 _
    refine PW.runs hw_14 rfl 1 (q := (34, [some (.ref 3), some (.int a), some (.int b), some (.int c), some (.int e), some (.int x5)], [.int v1], σ1)) (q' := (36, [some (.ref 3), some (.int a), some (.int b), some (.int c), some (.int e), some (.int x5)], [.int e, .int v1], σ1)) rfl ?_
    refine PW.icm (t := 61) (ins_l hw_14 rfl) rfl (fun hc2 => ?_) (fun hc2 => ?_)
    · replace h := (if_pos (c_geT hc2)).mp h
      refine PW.runs hw_14 rfl 5 (q := (61, [some (.ref 3), some (.int a), some (.int b), some (.int c), some (.int e), some (.int x5)], [], σ1)) (q' := (71, [some (.ref 3), some (.int a), some (.int b), some (.int c), some (.int e), some (.int x5)], [.int (σ1 3 1), .int x5, .ref 7], σ1)) rfl ?_
      obtain ⟨hb2, h⟩ := h
      refine PW.iast (n := 12) (ins_l hw_14 rfl) rfl (idx_in hb2.1 hb2.2).1 ?_
      refine PW.runs hw_14 rfl 5 (q := (72, [some (.ref 3), some (.int a), some (.int b), some (.int c), some (.int e), some (.int x5)], [], (s2 σ1 7 (Int32.toNatClampNeg x5) (σ1 3 1)))) (q' := (81, [some (.ref 3), some (.int a), some (.int b), some (.int c), some (.int e), some (.int x5)], [.int a, .int (σ1 3 1), .ref 4], (s2 σ1 7 (Int32.toNatClampNeg x5) (σ1 3 1)))) rfl ?_
      obtain ⟨hb3, h⟩ := h
      refine PW.iast (n := 12) (ins_l hw_14 rfl) rfl (idx_in hb3.1 hb3.2).1 ?_
      refine PW.runs hw_14 rfl 5 (q := (82, [some (.ref 3), some (.int a), some (.int b), some (.int c), some (.int e), some (.int x5)], [], (s2 (s2 σ1 7 (Int32.toNatClampNeg x5) (σ1 3 1)) 4 (Int32.toNatClampNeg (σ1 3 1)) a))) (q' := (91, [some (.ref 3), some (.int a), some (.int b), some (.int c), some (.int e), some (.int x5)], [.int b, .int (σ1 3 1), .ref 5], (s2 (s2 σ1 7 (Int32.toNatClampNeg x5) (σ1 3 1)) 4 (Int32.toNatClampNeg (σ1 3 1)) a))) rfl ?_
      refine PW.iast (n := 12) (ins_l hw_14 rfl) rfl (idx_in hb3.1 hb3.2).1 ?_
      refine PW.runs hw_14 rfl 5 (q := (92, [some (.ref 3), some (.int a), some (.int b), some (.int c), some (.int e), some (.int x5)], [], (s2 (s2 (s2 σ1 7 (Int32.toNatClampNeg x5) (σ1 3 1)) 4 (Int32.toNatClampNeg (σ1 3 1)) a) 5 (Int32.toNatClampNeg (σ1 3 1)) b))) (q' := (102, [some (.ref 3), some (.int a), some (.int b), some (.int c), some (.int e), some (.int x5)], [.int e, .int (σ1 3 1), .ref 6], (s2 (s2 (s2 σ1 7 (Int32.toNatClampNeg x5) (σ1 3 1)) 4 (Int32.toNatClampNeg (σ1 3 1)) a) 5 (Int32.toNatClampNeg (σ1 3 1)) b))) rfl ?_
      refine PW.iast (n := 12) (ins_l hw_14 rfl) rfl (idx_in hb3.1 hb3.2).1 ?_
      refine PW.runs hw_14 rfl 15 (q := (103, [some (.ref 3), some (.int a), some (.int b), some (.int c), some (.int e), some (.int x5)], [], (s2 (s2 (s2 (s2 σ1 7 (Int32.toNatClampNeg x5) (σ1 3 1)) 4 (Int32.toNatClampNeg (σ1 3 1)) a) 5 (Int32.toNatClampNeg (σ1 3 1)) b) 6 (Int32.toNatClampNeg (σ1 3 1)) e))) (q' := (128, [some (.ref 3), some (.int a), some (.int b), some (.int c), some (.int e), some (.int x5)], [], (s2 (s2 (s2 (s2 (s2 (s2 σ1 7 (Int32.toNatClampNeg x5) (σ1 3 1)) 4 (Int32.toNatClampNeg (σ1 3 1)) a) 5 (Int32.toNatClampNeg (σ1 3 1)) b) 6 (Int32.toNatClampNeg (σ1 3 1)) e) 3 4 ((σ1 3 4) ||| (c <<< ((σ1 3 1) &&& 31)))) 3 1 ((σ1 3 1) + 1)))) rfl ?_
      exact PW.vret (ins_l hw_14 rfl) rfl ⟨rfl, h⟩
    · replace h := (if_neg (c_geF hc2)).mp h
      refine PW.runs hw_14 rfl 8 (q := (39, [some (.ref 3), some (.int a), some (.int b), some (.int c), some (.int e), some (.int x5)], [], σ1)) (q' := (53, [some (.ref 3), some (.int a), some (.int b), some (.int c), some (.int e), some (.int x5)], [.int (x5 - 1), .ref 7, .int x5, .ref 7], σ1)) rfl ?_
      refine PW.iald (n := 12) (ins_l hw_14 rfl) rfl (idx_in hb1.1 hb1.2).1 ?_
      obtain ⟨hb2, h⟩ := h
      refine PW.iast (n := 12) (ins_l hw_14 rfl) rfl (idx_in hb2.1 hb2.2).1 ?_
      refine PW.runs hw_14 rfl 2 (q := (55, [some (.ref 3), some (.int a), some (.int b), some (.int c), some (.int e), some (.int x5)], [], (s2 σ1 7 (Int32.toNatClampNeg x5) (σ1 7 (Int32.toNatClampNeg (x5 - 1)))))) (q' := (16, [some (.ref 3), some (.int a), some (.int b), some (.int c), some (.int e), some (.int (x5 + (-1)))], [], (s2 σ1 7 (Int32.toNatClampNeg x5) (σ1 7 (Int32.toNatClampNeg (x5 - 1)))))) rfl ?_
      exact h
theorem hw_15 : pins.getD 15 [] = pi_15 := rfl
/-! MapDuty$Plan.addMap.(II)V -/
set_option maxRecDepth 20000 in
theorem w_15 {a : Int32} {b : Int32} {σ : St} {K : St → Prop} (h : (if (σ 3 2) < 5 then ((0 ≤ (σ 3 2).toInt ∧ (σ 3 2).toInt < 5) ∧ K (s2 (s2 (s2 σ 8 (Int32.toNatClampNeg (σ 3 2)) a) 9 (Int32.toNatClampNeg (σ 3 2)) b) 3 2 ((σ 3 2) + 1))) else K σ)) : CV 15 [.ref 3, .int a, .int b] σ K := by
  show PW none 15 0 [some (.ref 3), some (.int a), some (.int b)] [] σ _
  refine PW.runs hw_15 rfl 3 (q := (0, [some (.ref 3), some (.int a), some (.int b)], [], σ)) (q' := (5, [some (.ref 3), some (.int a), some (.int b)], [.int 5, .int (σ 3 2)], σ)) rfl ?_
  refine PW.icm (t := 9) (ins_l hw_15 rfl) rfl (fun hc1 => ?_) (fun hc1 => ?_)
  · replace h := (if_pos (c_ltT hc1)).mp h
    refine PW.runs hw_15 rfl 5 (q := (9, [some (.ref 3), some (.int a), some (.int b)], [], σ)) (q' := (18, [some (.ref 3), some (.int a), some (.int b)], [.int a, .int (σ 3 2), .ref 8], σ)) rfl ?_
    obtain ⟨hb1, h⟩ := h
    refine PW.iast (n := 5) (ins_l hw_15 rfl) rfl (idx_in hb1.1 hb1.2).1 ?_
    refine PW.runs hw_15 rfl 5 (q := (19, [some (.ref 3), some (.int a), some (.int b)], [], (s2 σ 8 (Int32.toNatClampNeg (σ 3 2)) a))) (q' := (28, [some (.ref 3), some (.int a), some (.int b)], [.int b, .int (σ 3 2), .ref 9], (s2 σ 8 (Int32.toNatClampNeg (σ 3 2)) a))) rfl ?_
    refine PW.iast (n := 5) (ins_l hw_15 rfl) rfl (idx_in hb1.1 hb1.2).1 ?_
    refine PW.runs hw_15 rfl 6 (q := (29, [some (.ref 3), some (.int a), some (.int b)], [], (s2 (s2 σ 8 (Int32.toNatClampNeg (σ 3 2)) a) 9 (Int32.toNatClampNeg (σ 3 2)) b))) (q' := (39, [some (.ref 3), some (.int a), some (.int b)], [], (s2 (s2 (s2 σ 8 (Int32.toNatClampNeg (σ 3 2)) a) 9 (Int32.toNatClampNeg (σ 3 2)) b) 3 2 ((σ 3 2) + 1)))) rfl ?_
    exact PW.vret (ins_l hw_15 rfl) rfl ⟨rfl, h⟩
  · replace h := (if_neg (c_ltF hc1)).mp h
    exact PW.vret (ins_l hw_15 rfl) rfl ⟨rfl, h⟩
theorem hw_16 : pins.getD 16 [] = pi_16 := rfl
/-! MapDuty$Plan.addInspector.(I)V -/
set_option maxRecDepth 20000 in
theorem w_16 {a : Int32} {σ : St} {K : St → Prop} (h : (if (σ 3 3) < 4 then ((0 ≤ (σ 3 3).toInt ∧ (σ 3 3).toInt < 4) ∧ K (s2 (s2 σ 10 (Int32.toNatClampNeg (σ 3 3)) a) 3 3 ((σ 3 3) + 1))) else K σ)) : CV 16 [.ref 3, .int a] σ K := by
  show PW none 16 0 [some (.ref 3), some (.int a)] [] σ _
  refine PW.runs hw_16 rfl 3 (q := (0, [some (.ref 3), some (.int a)], [], σ)) (q' := (5, [some (.ref 3), some (.int a)], [.int 4, .int (σ 3 3)], σ)) rfl ?_
  refine PW.icm (t := 9) (ins_l hw_16 rfl) rfl (fun hc1 => ?_) (fun hc1 => ?_)
  · replace h := (if_pos (c_ltT hc1)).mp h
    refine PW.runs hw_16 rfl 5 (q := (9, [some (.ref 3), some (.int a)], [], σ)) (q' := (18, [some (.ref 3), some (.int a)], [.int a, .int (σ 3 3), .ref 10], σ)) rfl ?_
    obtain ⟨hb1, h⟩ := h
    refine PW.iast (n := 4) (ins_l hw_16 rfl) rfl (idx_in hb1.1 hb1.2).1 ?_
    refine PW.runs hw_16 rfl 6 (q := (19, [some (.ref 3), some (.int a)], [], (s2 σ 10 (Int32.toNatClampNeg (σ 3 3)) a))) (q' := (29, [some (.ref 3), some (.int a)], [], (s2 (s2 σ 10 (Int32.toNatClampNeg (σ 3 3)) a) 3 3 ((σ 3 3) + 1)))) rfl ?_
    exact PW.vret (ins_l hw_16 rfl) rfl ⟨rfl, h⟩
  · replace h := (if_neg (c_ltF hc1)).mp h
    exact PW.vret (ins_l hw_16 rfl) rfl ⟨rfl, h⟩
theorem hw_12 : pins.getD 12 [] = pi_12 := rfl
/-! MapDuty$Plan.clear.()V -/
set_option maxRecDepth 20000 in
theorem w_12  {σ : St} {K : St → Prop} (h : K (s2 (s2 (s2 (s2 (s2 σ 3 0 0) 3 1 0) 3 2 0) 3 3 0) 3 4 0)) : CV 12 [.ref 3] σ K := by
  show PW none 12 0 [some (.ref 3)] [] σ _
  refine PW.runs hw_12 rfl 15 (q := (0, [some (.ref 3)], [], σ)) (q' := (25, [some (.ref 3)], [], (s2 (s2 (s2 (s2 (s2 σ 3 0 0) 3 1 0) 3 2 0) 3 3 0) 3 4 0))) rfl ?_
  exact PW.vret (ins_l hw_12 rfl) rfl ⟨rfl, h⟩
