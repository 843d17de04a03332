/-! code: ways -/
theorem hw_41 : pins.getD 41 [] = pi_41 := rfl
/-! MapDuty$Roads.nextLine.(II)I -/
set_option maxRecDepth 20000 in
theorem w_41 {a : Int32} {b : Int32} {σ : St} {K : Int32 → St → Prop} (h : CI 40 [.ref 27, .int b] σ (fun v1 σ1 => (if 0 ≤ (v1 - 1) then PI 41 17 [some (.ref 27), some (.int a), some (.int b), some (.int (v1 - 1)), some (.int 0), none] [] σ1 K else K (-1) σ1))) : CI 41 [.ref 27, .int a, .int b] σ K := by
  show PW none 41 0 [some (.ref 27), some (.int a), some (.int b), none, none, none] [] σ _
  refine PW.runs hw_41 rfl 2 (q := (0, [some (.ref 27), some (.int a), some (.int b), none, none, none], [], σ)) (q' := (2, [some (.ref 27), some (.int a), some (.int b), none, none, none], [.int b, .ref 27], σ)) rfl ?_
  refine PW.callV (b := 27) (vs := [.int b]) (rest := []) (ins_l hw_41 rfl) rfl rfl rfl (Nat.le_of_ble_eq_true rfl) (Nat.le_of_ble_eq_true rfl) (PW.mono h ?_)
  rintro _ σ1 ⟨v1, rfl, h⟩
  show PW none 41 5 [some (.ref 27), some (.int a), some (.int b), none, none, none] [.int v1] σ1 _
  refine PW.runs hw_41 rfl 4 (q := (5, [some (.ref 27), some (.int a), some (.int b), none, none, none], [.int v1], σ1)) (q' := (9, [some (.ref 27), some (.int a), some (.int b), some (.int (v1 - 1)), none, none], [.int (v1 - 1)], σ1)) rfl ?_
  refine PW.ifc (t := 14) (ins_l hw_41 rfl) rfl (fun hc1 => ?_) (fun hc1 => ?_)
  · replace h := (if_pos (c_geT hc1)).mp h
    refine PW.runs hw_41 rfl 2 (q := (14, [some (.ref 27), some (.int a), some (.int b), some (.int (v1 - 1)), none, none], [], σ1)) (q' := (17, [some (.ref 27), some (.int a), some (.int b), some (.int (v1 - 1)), some (.int 0), none], [], σ1)) rfl ?_
    exact h
  · replace h := (if_neg (c_geF hc1)).mp h
    refine PW.runs hw_41 rfl 1 (q := (12, [some (.ref 27), some (.int a), some (.int b), some (.int (v1 - 1)), none, none], [], σ1)) (q' := (13, [some (.ref 27), some (.int a), some (.int b), some (.int (v1 - 1)), none, none], [.int (-1)], σ1)) rfl ?_
    exact PW.iret (ins_l hw_41 rfl) (Or.inl rfl) ⟨_, rfl, h⟩
set_option maxRecDepth 20000 in
theorem w_41_17 {a : Int32} {b : Int32} {x3 : Int32} {x4 : Int32} {o5 : Option Value} {σ : St} {K : Int32 → St → Prop} (h : (if (σ 11 1) ≤ x4 then K (-1) σ else CI 92 [.int a, .int x4] σ (fun v1 σ1 => (if v1 = 1 then CI 42 [.ref 27, .int x4, .int b] σ1 (fun v2 σ2 => (if v2 = (-1) then PI 41 17 [some (.ref 27), some (.int a), some (.int b), some (.int x3), some (.int (x4 + 1)), some (.int v2)] [] σ2 K else CI 40 [.ref 27, .int v2] σ2 (fun v3 σ3 => (if v3 = x3 then K x4 σ3 else PI 41 17 [some (.ref 27), some (.int a), some (.int b), some (.int x3), some (.int (x4 + 1)), some (.int v2)] [] σ3 K)))) else PI 41 17 [some (.ref 27), some (.int a), some (.int b), some (.int x3), some (.int (x4 + 1)), o5] [] σ1 K)))) : PI 41 17 [some (.ref 27), some (.int a), some (.int b), some (.int x3), some (.int x4), o5] [] σ K := by
  show PW none 41 17 [some (.ref 27), some (.int a), some (.int b), some (.int x3), some (.int x4), o5] [] σ _
  refine PW.runs hw_41 rfl 4 (q := (17, [some (.ref 27), some (.int a), some (.int b), some (.int x3), some (.int x4), o5], [], σ)) (q' := (26, [some (.ref 27), some (.int a), some (.int b), some (.int x3), some (.int x4), o5], [.int (σ 11 1), .int x4], σ)) rfl ?_
  refine PW.icm (t := 73) (ins_l hw_41 rfl) rfl (fun hc1 => ?_) (fun hc1 => ?_)
  · replace h := (if_pos (c_geT hc1)).mp h
    refine PW.runs hw_41 rfl 1 (q := (73, [some (.ref 27), some (.int a), some (.int b), some (.int x3), some (.int x4), o5], [], σ)) (q' := (74, [some (.ref 27), some (.int a), some (.int b), some (.int x3), some (.int x4), o5], [.int (-1)], σ)) rfl ?_
    exact PW.iret (ins_l hw_41 rfl) (Or.inl rfl) ⟨_, rfl, h⟩
  · replace h := (if_neg (c_geF hc1)).mp h
    refine PW.runs hw_41 rfl 2 (q := (29, [some (.ref 27), some (.int a), some (.int b), some (.int x3), some (.int x4), o5], [], σ)) (q' := (32, [some (.ref 27), some (.int a), some (.int b), some (.int x3), some (.int x4), o5], [.int x4, .int a], σ)) rfl ?_
    refine PW.callS (vs := [.int a, .int x4]) (rest := []) (ins_l hw_41 rfl) rfl (Or.inr rfl) rfl (Nat.le_of_ble_eq_true rfl) (Nat.le_of_ble_eq_true rfl) (PW.mono h ?_)
    rintro _ σ1 ⟨v1, rfl, h⟩
    show PW none 41 35 [some (.ref 27), some (.int a), some (.int b), some (.int x3), some (.int x4), o5] [.int v1] σ1 _
    refine PW.runs hw_41 rfl 1 (q := (35, [some (.ref 27), some (.int a), some (.int b), some (.int x3), some (.int x4), o5], [.int v1], σ1)) (q' := (36, [some (.ref 27), some (.int a), some (.int b), some (.int x3), some (.int x4), o5], [.int 1, .int v1], σ1)) rfl ?_
    refine PW.icm (t := 67) (ins_l hw_41 rfl) rfl (fun hc2 => ?_) (fun hc2 => ?_)
    · replace h := (if_neg (c_neT hc2)).mp h
      refine PW.runs hw_41 rfl 2 (q := (67, [some (.ref 27), some (.int a), some (.int b), some (.int x3), some (.int x4), o5], [], σ1)) (q' := (17, [some (.ref 27), some (.int a), some (.int b), some (.int x3), some (.int (x4 + 1)), o5], [], σ1)) rfl ?_
      exact h
    · replace h := (if_pos (c_neF hc2)).mp h
      refine PW.runs hw_41 rfl 3 (q := (39, [some (.ref 27), some (.int a), some (.int b), some (.int x3), some (.int x4), o5], [], σ1)) (q' := (43, [some (.ref 27), some (.int a), some (.int b), some (.int x3), some (.int x4), o5], [.int b, .int x4, .ref 27], σ1)) rfl ?_
      refine PW.callV (b := 27) (vs := [.int x4, .int b]) (rest := []) (ins_l hw_41 rfl) rfl rfl rfl (Nat.le_of_ble_eq_true rfl) (Nat.le_of_ble_eq_true rfl) (PW.mono h ?_)
      rintro _ σ2 ⟨v2, rfl, h⟩
      show PW none 41 46 [some (.ref 27), some (.int a), some (.int b), some (.int x3), some (.int x4), o5] [.int v2] σ2 _
      refine PW.runs hw_41 rfl 3 (q := (46, [some (.ref 27), some (.int a), some (.int b), some (.int x3), some (.int x4), o5], [.int v2], σ2)) (q' := (51, [some (.ref 27), some (.int a), some (.int b), some (.int x3), some (.int x4), some (.int v2)], [.int (-1), .int v2], σ2)) rfl ?_
      refine PW.icm (t := 67) (ins_l hw_41 rfl) rfl (fun hc3 => ?_) (fun hc3 => ?_)
      · replace h := (if_pos (c_eqT hc3)).mp h
        refine PW.runs hw_41 rfl 2 (q := (67, [some (.ref 27), some (.int a), some (.int b), some (.int x3), some (.int x4), some (.int v2)], [], σ2)) (q' := (17, [some (.ref 27), some (.int a), some (.int b), some (.int x3), some (.int (x4 + 1)), some (.int v2)], [], σ2)) rfl ?_
        exact h
      · replace h := (if_neg (c_eqF hc3)).mp h
        refine PW.runs hw_41 rfl 2 (q := (54, [some (.ref 27), some (.int a), some (.int b), some (.int x3), some (.int x4), some (.int v2)], [], σ2)) (q' := (57, [some (.ref 27), some (.int a), some (.int b), some (.int x3), some (.int x4), some (.int v2)], [.int v2, .ref 27], σ2)) rfl ?_
        refine PW.callV (b := 27) (vs := [.int v2]) (rest := []) (ins_l hw_41 rfl) rfl rfl rfl (Nat.le_of_ble_eq_true rfl) (Nat.le_of_ble_eq_true rfl) (PW.mono h ?_)
        rintro _ σ3 ⟨v3, rfl, h⟩
        show PW none 41 60 [some (.ref 27), some (.int a), some (.int b), some (.int x3), some (.int x4), some (.int v2)] [.int v3] σ3 _
        refine PW.runs hw_41 rfl 1 (q := (60, [some (.ref 27), some (.int a), some (.int b), some (.int x3), some (.int x4), some (.int v2)], [.int v3], σ3)) (q' := (61, [some (.ref 27), some (.int a), some (.int b), some (.int x3), some (.int x4), some (.int v2)], [.int x3, .int v3], σ3)) rfl ?_
        refine PW.icm (t := 67) (ins_l hw_41 rfl) rfl (fun hc4 => ?_) (fun hc4 => ?_)
        · replace h := (if_neg (c_neT hc4)).mp h
          refine PW.runs hw_41 rfl 2 (q := (67, [some (.ref 27), some (.int a), some (.int b), some (.int x3), some (.int x4), some (.int v2)], [], σ3)) (q' := (17, [some (.ref 27), some (.int a), some (.int b), some (.int x3), some (.int (x4 + 1)), some (.int v2)], [], σ3)) rfl ?_
          exact h
        · replace h := (if_pos (c_neF hc4)).mp h
          refine PW.runs hw_41 rfl 1 (q := (64, [some (.ref 27), some (.int a), some (.int b), some (.int x3), some (.int x4), some (.int v2)], [], σ3)) (q' := (66, [some (.ref 27), some (.int a), some (.int b), some (.int x3), some (.int x4), some (.int v2)], [.int x4], σ3)) rfl ?_
          exact PW.iret (ins_l hw_41 rfl) (Or.inl rfl) ⟨_, rfl, h⟩
theorem hw_42 : pins.getD 42 [] = pi_42 := rfl
/-! MapDuty$Roads.otherEnd.(II)I -/
set_option maxRecDepth 20000 in
theorem w_42 {a : Int32} {b : Int32} {σ : St} {K : Int32 → St → Prop} (h : (if a < 0 then K (-1) σ else (if a < 12 then ((0 ≤ a.toInt ∧ a.toInt < 12) ∧ (if (σ 12 (Int32.toNatClampNeg a)) = b then K (σ 13 (Int32.toNatClampNeg a)) σ else (if (σ 13 (Int32.toNatClampNeg a)) = b then K (σ 12 (Int32.toNatClampNeg a)) σ else K (-1) σ))) else K (-1) σ))) : CI 42 [.ref 27, .int a, .int b] σ K := by
  show PW none 42 0 [some (.ref 27), some (.int a), some (.int b)] [] σ _
  refine PW.runs hw_42 rfl 1 (q := (0, [some (.ref 27), some (.int a), some (.int b)], [], σ)) (q' := (1, [some (.ref 27), some (.int a), some (.int b)], [.int a], σ)) rfl ?_
  refine PW.ifc (t := 10) (ins_l hw_42 rfl) rfl (fun hc1 => ?_) (fun hc1 => ?_)
  · replace h := (if_pos (c_ltT hc1)).mp h
    refine PW.runs hw_42 rfl 1 (q := (10, [some (.ref 27), some (.int a), some (.int b)], [], σ)) (q' := (11, [some (.ref 27), some (.int a), some (.int b)], [.int (-1)], σ)) rfl ?_
    exact PW.iret (ins_l hw_42 rfl) (Or.inl rfl) ⟨_, rfl, h⟩
  · replace h := (if_neg (c_ltF hc1)).mp h
    refine PW.runs hw_42 rfl 2 (q := (4, [some (.ref 27), some (.int a), some (.int b)], [], σ)) (q' := (7, [some (.ref 27), some (.int a), some (.int b)], [.int 12, .int a], σ)) rfl ?_
    refine PW.icm (t := 12) (ins_l hw_42 rfl) rfl (fun hc2 => ?_) (fun hc2 => ?_)
    · replace h := (if_pos (c_ltT hc2)).mp h
      refine PW.runs hw_42 rfl 4 (q := (12, [some (.ref 27), some (.int a), some (.int b)], [], σ)) (q' := (20, [some (.ref 27), some (.int a), some (.int b)], [.int a, .ref 12], σ)) rfl ?_
      obtain ⟨hb1, h⟩ := h
      refine PW.iald (n := 12) (ins_l hw_42 rfl) rfl (idx_in hb1.1 hb1.2).1 ?_
      refine PW.runs hw_42 rfl 1 (q := (21, [some (.ref 27), some (.int a), some (.int b)], [.int (σ 12 (Int32.toNatClampNeg a))], σ)) (q' := (22, [some (.ref 27), some (.int a), some (.int b)], [.int b, .int (σ 12 (Int32.toNatClampNeg a))], σ)) rfl ?_
      refine PW.icm (t := 35) (ins_l hw_42 rfl) rfl (fun hc3 => ?_) (fun hc3 => ?_)
      · replace h := (if_neg (c_neT hc3)).mp h
        refine PW.runs hw_42 rfl 4 (q := (35, [some (.ref 27), some (.int a), some (.int b)], [], σ)) (q' := (43, [some (.ref 27), some (.int a), some (.int b)], [.int a, .ref 13], σ)) rfl ?_
        refine PW.iald (n := 12) (ins_l hw_42 rfl) rfl (idx_in hb1.1 hb1.2).1 ?_
        refine PW.runs hw_42 rfl 1 (q := (44, [some (.ref 27), some (.int a), some (.int b)], [.int (σ 13 (Int32.toNatClampNeg a))], σ)) (q' := (45, [some (.ref 27), some (.int a), some (.int b)], [.int b, .int (σ 13 (Int32.toNatClampNeg a))], σ)) rfl ?_
        refine PW.icm (t := 60) (ins_l hw_42 rfl) rfl (fun hc4 => ?_) (fun hc4 => ?_)
        · replace h := (if_neg (c_neT hc4)).mp h
          refine PW.runs hw_42 rfl 1 (q := (60, [some (.ref 27), some (.int a), some (.int b)], [], σ)) (q' := (61, [some (.ref 27), some (.int a), some (.int b)], [.int (-1)], σ)) rfl ?_
          exact PW.iret (ins_l hw_42 rfl) (Or.inl rfl) ⟨_, rfl, h⟩
        · replace h := (if_pos (c_neF hc4)).mp h
          refine PW.runs hw_42 rfl 4 (q := (48, [some (.ref 27), some (.int a), some (.int b)], [], σ)) (q' := (56, [some (.ref 27), some (.int a), some (.int b)], [.int a, .ref 12], σ)) rfl ?_
          refine PW.iald (n := 12) (ins_l hw_42 rfl) rfl (idx_in hb1.1 hb1.2).1 ?_
          refine PW.runs hw_42 rfl 1 (q := (57, [some (.ref 27), some (.int a), some (.int b)], [.int (σ 12 (Int32.toNatClampNeg a))], σ)) (q' := (61, [some (.ref 27), some (.int a), some (.int b)], [.int (σ 12 (Int32.toNatClampNeg a))], σ)) rfl ?_
          exact PW.iret (ins_l hw_42 rfl) (Or.inl rfl) ⟨_, rfl, h⟩
      · replace h := (if_pos (c_neF hc3)).mp h
        refine PW.runs hw_42 rfl 4 (q := (25, [some (.ref 27), some (.int a), some (.int b)], [], σ)) (q' := (33, [some (.ref 27), some (.int a), some (.int b)], [.int a, .ref 13], σ)) rfl ?_
        refine PW.iald (n := 12) (ins_l hw_42 rfl) rfl (idx_in hb1.1 hb1.2).1 ?_
        exact PW.iret (ins_l hw_42 rfl) (Or.inl rfl) ⟨_, rfl, h⟩
    · replace h := (if_neg (c_ltF hc2)).mp h
      refine PW.runs hw_42 rfl 1 (q := (10, [some (.ref 27), some (.int a), some (.int b)], [], σ)) (q' := (11, [some (.ref 27), some (.int a), some (.int b)], [.int (-1)], σ)) rfl ?_
      exact PW.iret (ins_l hw_42 rfl) (Or.inl rfl) ⟨_, rfl, h⟩
theorem hw_43 : pins.getD 43 [] = pi_43 := rfl
/-! MapDuty$Roads.goneBeforeFall.(III)I -/
set_option maxRecDepth 20000 in
theorem w_43 {a : Int32} {b : Int32} {c : Int32} {σ : St} {K : Int32 → St → Prop} (h : CI 40 [.ref 27, .int c] σ (fun v1 σ1 => PI 43 13 [some (.ref 27), some (.int a), some (.int b), some (.int c), some (.int v1), some (.int c), some (.int 0), none] [] σ1 K)) : CI 43 [.ref 27, .int a, .int b, .int c] σ K := by
  show PW none 43 0 [some (.ref 27), some (.int a), some (.int b), some (.int c), none, none, none, none] [] σ _
  refine PW.runs hw_43 rfl 2 (q := (0, [some (.ref 27), some (.int a), some (.int b), some (.int c), none, none, none, none], [], σ)) (q' := (2, [some (.ref 27), some (.int a), some (.int b), some (.int c), none, none, none, none], [.int c, .ref 27], σ)) rfl ?_
  refine PW.callV (b := 27) (vs := [.int c]) (rest := []) (ins_l hw_43 rfl) rfl rfl rfl (Nat.le_of_ble_eq_true rfl) (Nat.le_of_ble_eq_true rfl) (PW.mono h ?_)
  rintro _ σ1 ⟨v1, rfl, h⟩
  show PW none 43 5 [some (.ref 27), some (.int a), some (.int b), some (.int c), none, none, none, none] [.int v1] σ1 _
  refine PW.runs hw_43 rfl 5 (q := (5, [some (.ref 27), some (.int a), some (.int b), some (.int c), none, none, none, none], [.int v1], σ1)) (q' := (13, [some (.ref 27), some (.int a), some (.int b), some (.int c), some (.int v1), some (.int c), some (.int 0), none], [], σ1)) rfl ?_
  exact h
set_option maxRecDepth 20000 in
theorem w_43_13 {a : Int32} {b : Int32} {c : Int32} {x4 : Int32} {x5 : Int32} {x6 : Int32} {o7 : Option Value} {σ : St} {K : Int32 → St → Prop} (h : (if x4 ≤ x6 then K (-1) σ else CI 41 [.ref 27, .int a, .int x5] σ (fun v1 σ1 => (if v1 = (-1) then K (-1) σ1 else CI 92 [.int b, .int v1] σ1 (fun v2 σ2 => (if v2 = 0 then K x6 σ2 else CI 42 [.ref 27, .int v1, .int x5] σ2 (fun v3 σ3 => PI 43 13 [some (.ref 27), some (.int a), some (.int b), some (.int c), some (.int x4), some (.int v3), some (.int (x6 + 1)), some (.int v1)] [] σ3 K))))))) : PI 43 13 [some (.ref 27), some (.int a), some (.int b), some (.int c), some (.int x4), some (.int x5), some (.int x6), o7] [] σ K := by
  show PW none 43 13 [some (.ref 27), some (.int a), some (.int b), some (.int c), some (.int x4), some (.int x5), some (.int x6), o7] [] σ _
  refine PW.runs hw_43 rfl 2 (q := (13, [some (.ref 27), some (.int a), some (.int b), some (.int c), some (.int x4), some (.int x5), some (.int x6), o7], [], σ)) (q' := (17, [some (.ref 27), some (.int a), some (.int b), some (.int c), some (.int x4), some (.int x5), some (.int x6), o7], [.int x4, .int x6], σ)) rfl ?_
  refine PW.icm (t := 65) (ins_l hw_43 rfl) rfl (fun hc1 => ?_) (fun hc1 => ?_)
  · replace h := (if_pos (c_geT hc1)).mp h
    refine PW.runs hw_43 rfl 1 (q := (65, [some (.ref 27), some (.int a), some (.int b), some (.int c), some (.int x4), some (.int x5), some (.int x6), o7], [], σ)) (q' := (66, [some (.ref 27), some (.int a), some (.int b), some (.int c), some (.int x4), some (.int x5), some (.int x6), o7], [.int (-1)], σ)) rfl ?_
    exact PW.iret (ins_l hw_43 rfl) (Or.inl rfl) ⟨_, rfl, h⟩
  · replace h := (if_neg (c_geF hc1)).mp h
    refine PW.runs hw_43 rfl 3 (q := (20, [some (.ref 27), some (.int a), some (.int b), some (.int c), some (.int x4), some (.int x5), some (.int x6), o7], [], σ)) (q' := (24, [some (.ref 27), some (.int a), some (.int b), some (.int c), some (.int x4), some (.int x5), some (.int x6), o7], [.int x5, .int a, .ref 27], σ)) rfl ?_
    refine PW.callV (b := 27) (vs := [.int a, .int x5]) (rest := []) (ins_l hw_43 rfl) rfl rfl rfl (Nat.le_of_ble_eq_true rfl) (Nat.le_of_ble_eq_true rfl) (PW.mono h ?_)
    rintro _ σ1 ⟨v1, rfl, h⟩
    show PW none 43 27 [some (.ref 27), some (.int a), some (.int b), some (.int c), some (.int x4), some (.int x5), some (.int x6), o7] [.int v1] σ1 _
    refine PW.runs hw_43 rfl 3 (q := (27, [some (.ref 27), some (.int a), some (.int b), some (.int c), some (.int x4), some (.int x5), some (.int x6), o7], [.int v1], σ1)) (q' := (32, [some (.ref 27), some (.int a), some (.int b), some (.int c), some (.int x4), some (.int x5), some (.int x6), some (.int v1)], [.int (-1), .int v1], σ1)) rfl ?_
    refine PW.icm (t := 37) (ins_l hw_43 rfl) rfl (fun hc2 => ?_) (fun hc2 => ?_)
    · replace h := (if_neg (c_neT hc2)).mp h
      refine PW.runs hw_43 rfl 2 (q := (37, [some (.ref 27), some (.int a), some (.int b), some (.int c), some (.int x4), some (.int x5), some (.int x6), some (.int v1)], [], σ1)) (q' := (40, [some (.ref 27), some (.int a), some (.int b), some (.int c), some (.int x4), some (.int x5), some (.int x6), some (.int v1)], [.int v1, .int b], σ1)) rfl ?_
      refine PW.callS (vs := [.int b, .int v1]) (rest := []) (ins_l hw_43 rfl) rfl (Or.inr rfl) rfl (Nat.le_of_ble_eq_true rfl) (Nat.le_of_ble_eq_true rfl) (PW.mono h ?_)
      rintro _ σ2 ⟨v2, rfl, h⟩
      show PW none 43 43 [some (.ref 27), some (.int a), some (.int b), some (.int c), some (.int x4), some (.int x5), some (.int x6), some (.int v1)] [.int v2] σ2 _
      refine PW.ifc (t := 49) (ins_l hw_43 rfl) rfl (fun hc3 => ?_) (fun hc3 => ?_)
      · replace h := (if_neg (c_neT hc3)).mp h
        refine PW.runs hw_43 rfl 3 (q := (49, [some (.ref 27), some (.int a), some (.int b), some (.int c), some (.int x4), some (.int x5), some (.int x6), some (.int v1)], [], σ2)) (q' := (54, [some (.ref 27), some (.int a), some (.int b), some (.int c), some (.int x4), some (.int x5), some (.int x6), some (.int v1)], [.int x5, .int v1, .ref 27], σ2)) rfl ?_
        refine PW.callV (b := 27) (vs := [.int v1, .int x5]) (rest := []) (ins_l hw_43 rfl) rfl rfl rfl (Nat.le_of_ble_eq_true rfl) (Nat.le_of_ble_eq_true rfl) (PW.mono h ?_)
        rintro _ σ3 ⟨v3, rfl, h⟩
        show PW none 43 57 [some (.ref 27), some (.int a), some (.int b), some (.int c), some (.int x4), some (.int x5), some (.int x6), some (.int v1)] [.int v3] σ3 _
        refine PW.runs hw_43 rfl 3 (q := (57, [some (.ref 27), some (.int a), some (.int b), some (.int c), some (.int x4), some (.int x5), some (.int x6), some (.int v1)], [.int v3], σ3)) (q' := (13, [some (.ref 27), some (.int a), some (.int b), some (.int c), some (.int x4), some (.int v3), some (.int (x6 + 1)), some (.int v1)], [], σ3)) rfl ?_
        exact h
      · replace h := (if_pos (c_neF hc3)).mp h
        refine PW.runs hw_43 rfl 1 (q := (46, [some (.ref 27), some (.int a), some (.int b), some (.int c), some (.int x4), some (.int x5), some (.int x6), some (.int v1)], [], σ2)) (q' := (48, [some (.ref 27), some (.int a), some (.int b), some (.int c), some (.int x4), some (.int x5), some (.int x6), some (.int v1)], [.int x6], σ2)) rfl ?_
        exact PW.iret (ins_l hw_43 rfl) (Or.inl rfl) ⟨_, rfl, h⟩
    · replace h := (if_pos (c_neF hc2)).mp h
      refine PW.runs hw_43 rfl 1 (q := (35, [some (.ref 27), some (.int a), some (.int b), some (.int c), some (.int x4), some (.int x5), some (.int x6), some (.int v1)], [], σ1)) (q' := (36, [some (.ref 27), some (.int a), some (.int b), some (.int c), some (.int x4), some (.int x5), some (.int x6), some (.int v1)], [.int (-1)], σ1)) rfl ?_
      exact PW.iret (ins_l hw_43 rfl) (Or.inl rfl) ⟨_, rfl, h⟩
theorem hw_69 : pins.getD 69 [] = pi_69 := rfl
/-! MapDuty.way.(IIII)I -/
set_option maxRecDepth 20000 in
theorem w_69 {a : Int32} {b : Int32} {c : Int32} {e : Int32} {σ : St} {K : Int32 → St → Prop} (h : (if a = (-1) then CI 89 [.ref 0, .int b, .int c] σ (fun v1 σ1 => (if v1 = 0 then K (-1000000001) σ1 else CI 91 [.int e, .int 0, .int 2] σ1 (fun v2 σ2 => (if v2 = 0 then K (-1000000002) σ2 else CI 86 [.ref 0, .int a] σ2 (fun v3 σ3 => (if v3 = 0 then CV 38 [.ref 27, .int (σ3 19 0), .int c] σ3 (fun σ4 => (if e = 0 then ((0 ≤ b.toInt ∧ b.toInt < 8) ∧ K (σ4 28 (Int32.toNatClampNeg b)) σ4) else ((0 ≤ b.toInt ∧ b.toInt < 8) ∧ (if (σ4 28 (Int32.toNatClampNeg b)) = (-1) then K (σ4 28 (Int32.toNatClampNeg b)) σ4 else (if e = 1 then CI 41 [.ref 27, .int (σ3 19 0), .int b] σ4 (fun v6 σ6 => K v6 σ6) else CI 43 [.ref 27, .int (σ3 19 0), .int (σ4 19 0), .int b] σ4 (fun v5 σ5 => K v5 σ5)))))) else ((0 ≤ a.toInt ∧ a.toInt < 5) ∧ CV 38 [.ref 27, .int (σ3 20 (Int32.toNatClampNeg a)), .int c] σ3 (fun σ7 => (if e = 0 then ((0 ≤ b.toInt ∧ b.toInt < 8) ∧ K (σ7 28 (Int32.toNatClampNeg b)) σ7) else ((0 ≤ b.toInt ∧ b.toInt < 8) ∧ (if (σ7 28 (Int32.toNatClampNeg b)) = (-1) then K (σ7 28 (Int32.toNatClampNeg b)) σ7 else (if e = 1 then CI 41 [.ref 27, .int (σ3 20 (Int32.toNatClampNeg a)), .int b] σ7 (fun v9 σ9 => K v9 σ9) else CI 43 [.ref 27, .int (σ3 20 (Int32.toNatClampNeg a)), .int (σ7 19 0), .int b] σ7 (fun v8 σ8 => K v8 σ8))))))))))))) else CI 86 [.ref 0, .int a] σ (fun v10 σ10 => (if v10 = 0 then K (-1000000001) σ10 else CI 89 [.ref 0, .int b, .int c] σ10 (fun v11 σ11 => (if v11 = 0 then K (-1000000001) σ11 else CI 91 [.int e, .int 0, .int 2] σ11 (fun v12 σ12 => (if v12 = 0 then K (-1000000002) σ12 else CI 86 [.ref 0, .int a] σ12 (fun v13 σ13 => (if v13 = 0 then CV 38 [.ref 27, .int (σ13 19 0), .int c] σ13 (fun σ14 => (if e = 0 then ((0 ≤ b.toInt ∧ b.toInt < 8) ∧ K (σ14 28 (Int32.toNatClampNeg b)) σ14) else ((0 ≤ b.toInt ∧ b.toInt < 8) ∧ (if (σ14 28 (Int32.toNatClampNeg b)) = (-1) then K (σ14 28 (Int32.toNatClampNeg b)) σ14 else (if e = 1 then CI 41 [.ref 27, .int (σ13 19 0), .int b] σ14 (fun v16 σ16 => K v16 σ16) else CI 43 [.ref 27, .int (σ13 19 0), .int (σ14 19 0), .int b] σ14 (fun v15 σ15 => K v15 σ15)))))) else ((0 ≤ a.toInt ∧ a.toInt < 5) ∧ CV 38 [.ref 27, .int (σ13 20 (Int32.toNatClampNeg a)), .int c] σ13 (fun σ17 => (if e = 0 then ((0 ≤ b.toInt ∧ b.toInt < 8) ∧ K (σ17 28 (Int32.toNatClampNeg b)) σ17) else ((0 ≤ b.toInt ∧ b.toInt < 8) ∧ (if (σ17 28 (Int32.toNatClampNeg b)) = (-1) then K (σ17 28 (Int32.toNatClampNeg b)) σ17 else (if e = 1 then CI 41 [.ref 27, .int (σ13 20 (Int32.toNatClampNeg a)), .int b] σ17 (fun v19 σ19 => K v19 σ19) else CI 43 [.ref 27, .int (σ13 20 (Int32.toNatClampNeg a)), .int (σ17 19 0), .int b] σ17 (fun v18 σ18 => K v18 σ18))))))))))))))))) : CI 69 [.ref 0, .int a, .int b, .int c, .int e] σ K := by
  show PW none 69 0 [some (.ref 0), some (.int a), some (.int b), some (.int c), some (.int e), none] [] σ _
  refine PW.runs hw_69 rfl 2 (q := (0, [some (.ref 0), some (.int a), some (.int b), some (.int c), some (.int e), none], [], σ)) (q' := (2, [some (.ref 0), some (.int a), some (.int b), some (.int c), some (.int e), none], [.int (-1), .int a], σ)) rfl ?_
  refine PW.icm (t := 13) (ins_l hw_69 rfl) rfl (fun hc1 => ?_) (fun hc1 => ?_)
  · replace h := (if_pos (c_eqT hc1)).mp h
    refine PW.runs hw_69 rfl 3 (q := (13, [some (.ref 0), some (.int a), some (.int b), some (.int c), some (.int e), none], [], σ)) (q' := (16, [some (.ref 0), some (.int a), some (.int b), some (.int c), some (.int e), none], [.int c, .int b, .ref 0], σ)) rfl ?_
    refine PW.callV (b := 0) (vs := [.int b, .int c]) (rest := []) (ins_l hw_69 rfl) rfl rfl rfl (Nat.le_of_ble_eq_true rfl) (Nat.le_of_ble_eq_true rfl) (PW.mono h ?_)
    rintro _ σ1 ⟨v1, rfl, h⟩
    show PW none 69 19 [some (.ref 0), some (.int a), some (.int b), some (.int c), some (.int e), none] [.int v1] σ1 _
    refine PW.ifc (t := 25) (ins_l hw_69 rfl) rfl (fun hc2 => ?_) (fun hc2 => ?_)
    · replace h := (if_neg (c_neT hc2)).mp h
      refine PW.runs hw_69 rfl 3 (q := (25, [some (.ref 0), some (.int a), some (.int b), some (.int c), some (.int e), none], [], σ1)) (q' := (29, [some (.ref 0), some (.int a), some (.int b), some (.int c), some (.int e), none], [.int 2, .int 0, .int e], σ1)) rfl ?_
      refine PW.callS (vs := [.int e, .int 0, .int 2]) (rest := []) (ins_l hw_69 rfl) rfl (Or.inl rfl) rfl (Nat.le_of_ble_eq_true rfl) (Nat.le_of_ble_eq_true rfl) (PW.mono h ?_)
      rintro _ σ2 ⟨v2, rfl, h⟩
      show PW none 69 32 [some (.ref 0), some (.int a), some (.int b), some (.int c), some (.int e), none] [.int v2] σ2 _
      refine PW.ifc (t := 38) (ins_l hw_69 rfl) rfl (fun hc3 => ?_) (fun hc3 => ?_)
      · replace h := (if_neg (c_neT hc3)).mp h
        refine PW.runs hw_69 rfl 2 (q := (38, [some (.ref 0), some (.int a), some (.int b), some (.int c), some (.int e), none], [], σ2)) (q' := (40, [some (.ref 0), some (.int a), some (.int b), some (.int c), some (.int e), none], [.int a, .ref 0], σ2)) rfl ?_
        refine PW.callV (b := 0) (vs := [.int a]) (rest := []) (ins_l hw_69 rfl) rfl rfl rfl (Nat.le_of_ble_eq_true rfl) (Nat.le_of_ble_eq_true rfl) (PW.mono h ?_)
        rintro _ σ3 ⟨v3, rfl, h⟩
        show PW none 69 43 [some (.ref 0), some (.int a), some (.int b), some (.int c), some (.int e), none] [.int v3] σ3 _
        refine PW.ifc (t := 58) (ins_l hw_69 rfl) rfl (fun hc4 => ?_) (fun hc4 => ?_)
        · replace h := (if_pos (c_eqT hc4)).mp h
          refine PW.runs hw_69 rfl 8 (q := (58, [some (.ref 0), some (.int a), some (.int b), some (.int c), some (.int e), none], [], σ3)) (q' := (74, [some (.ref 0), some (.int a), some (.int b), some (.int c), some (.int e), some (.int (σ3 19 0))], [.int c, .int (σ3 19 0), .ref 27], σ3)) rfl ?_
          refine PW.callV (b := 27) (vs := [.int (σ3 19 0), .int c]) (rest := []) (ins_l hw_69 rfl) rfl rfl rfl (Nat.le_of_ble_eq_true rfl) (Nat.le_of_ble_eq_true rfl) (PW.mono h ?_)
          rintro _ σ4 ⟨rfl, h⟩
          show PW none 69 77 [some (.ref 0), some (.int a), some (.int b), some (.int c), some (.int e), some (.int (σ3 19 0))] [] σ4 _
          refine PW.runs hw_69 rfl 1 (q := (77, [some (.ref 0), some (.int a), some (.int b), some (.int c), some (.int e), some (.int (σ3 19 0))], [], σ4)) (q' := (79, [some (.ref 0), some (.int a), some (.int b), some (.int c), some (.int e), some (.int (σ3 19 0))], [.int e], σ4)) rfl ?_
          refine PW.ifc (t := 95) (ins_l hw_69 rfl) rfl (fun hc5 => ?_) (fun hc5 => ?_)
          · replace h := (if_pos (c_eqT hc5)).mp h
            refine PW.runs hw_69 rfl 4 (q := (95, [some (.ref 0), some (.int a), some (.int b), some (.int c), some (.int e), some (.int (σ3 19 0))], [], σ4)) (q' := (103, [some (.ref 0), some (.int a), some (.int b), some (.int c), some (.int e), some (.int (σ3 19 0))], [.int b, .ref 28], σ4)) rfl ?_
            obtain ⟨hb1, h⟩ := h
            refine PW.iald (n := 8) (ins_l hw_69 rfl) rfl (idx_in hb1.1 hb1.2).1 ?_
            exact PW.iret (ins_l hw_69 rfl) (Or.inl rfl) ⟨_, rfl, h⟩
          · replace h := (if_neg (c_eqF hc5)).mp h
            refine PW.runs hw_69 rfl 4 (q := (82, [some (.ref 0), some (.int a), some (.int b), some (.int c), some (.int e), some (.int (σ3 19 0))], [], σ4)) (q' := (90, [some (.ref 0), some (.int a), some (.int b), some (.int c), some (.int e), some (.int (σ3 19 0))], [.int b, .ref 28], σ4)) rfl ?_
            obtain ⟨hb1, h⟩ := h
            refine PW.iald (n := 8) (ins_l hw_69 rfl) rfl (idx_in hb1.1 hb1.2).1 ?_
            refine PW.runs hw_69 rfl 1 (q := (91, [some (.ref 0), some (.int a), some (.int b), some (.int c), some (.int e), some (.int (σ3 19 0))], [.int (σ4 28 (Int32.toNatClampNeg b))], σ4)) (q' := (92, [some (.ref 0), some (.int a), some (.int b), some (.int c), some (.int e), some (.int (σ3 19 0))], [.int (-1), .int (σ4 28 (Int32.toNatClampNeg b))], σ4)) rfl ?_
            refine PW.icm (t := 105) (ins_l hw_69 rfl) rfl (fun hc6 => ?_) (fun hc6 => ?_)
            · replace h := (if_neg (c_neT hc6)).mp h
              refine PW.runs hw_69 rfl 2 (q := (105, [some (.ref 0), some (.int a), some (.int b), some (.int c), some (.int e), some (.int (σ3 19 0))], [], σ4)) (q' := (108, [some (.ref 0), some (.int a), some (.int b), some (.int c), some (.int e), some (.int (σ3 19 0))], [.int 1, .int e], σ4)) rfl ?_
              refine PW.icm (t := 124) (ins_l hw_69 rfl) rfl (fun hc7 => ?_) (fun hc7 => ?_)
              · replace h := (if_neg (c_neT hc7)).mp h
                refine PW.runs hw_69 rfl 7 (q := (124, [some (.ref 0), some (.int a), some (.int b), some (.int c), some (.int e), some (.int (σ3 19 0))], [], σ4)) (q' := (138, [some (.ref 0), some (.int a), some (.int b), some (.int c), some (.int e), some (.int (σ3 19 0))], [.int b, .int (σ4 19 0), .int (σ3 19 0), .ref 27], σ4)) rfl ?_
                refine PW.callV (b := 27) (vs := [.int (σ3 19 0), .int (σ4 19 0), .int b]) (rest := []) (ins_l hw_69 rfl) rfl rfl rfl (Nat.le_of_ble_eq_true rfl) (Nat.le_of_ble_eq_true rfl) (PW.mono h ?_)
                rintro _ σ5 ⟨v5, rfl, h⟩
                show PW none 69 141 [some (.ref 0), some (.int a), some (.int b), some (.int c), some (.int e), some (.int (σ3 19 0))] [.int v5] σ5 _
                exact PW.iret (ins_l hw_69 rfl) (Or.inl rfl) ⟨_, rfl, h⟩
              · replace h := (if_pos (c_neF hc7)).mp h
                refine PW.runs hw_69 rfl 4 (q := (111, [some (.ref 0), some (.int a), some (.int b), some (.int c), some (.int e), some (.int (σ3 19 0))], [], σ4)) (q' := (118, [some (.ref 0), some (.int a), some (.int b), some (.int c), some (.int e), some (.int (σ3 19 0))], [.int b, .int (σ3 19 0), .ref 27], σ4)) rfl ?_
                refine PW.callV (b := 27) (vs := [.int (σ3 19 0), .int b]) (rest := []) (ins_l hw_69 rfl) rfl rfl rfl (Nat.le_of_ble_eq_true rfl) (Nat.le_of_ble_eq_true rfl) (PW.mono h ?_)
                rintro _ σ6 ⟨v6, rfl, h⟩
                show PW none 69 121 [some (.ref 0), some (.int a), some (.int b), some (.int c), some (.int e), some (.int (σ3 19 0))] [.int v6] σ6 _
                refine PW.runs hw_69 rfl 1 (q := (121, [some (.ref 0), some (.int a), some (.int b), some (.int c), some (.int e), some (.int (σ3 19 0))], [.int v6], σ6)) (q' := (141, [some (.ref 0), some (.int a), some (.int b), some (.int c), some (.int e), some (.int (σ3 19 0))], [.int v6], σ6)) rfl ?_
                exact PW.iret (ins_l hw_69 rfl) (Or.inl rfl) ⟨_, rfl, h⟩
            · replace h := (if_pos (c_neF hc6)).mp h
              refine PW.runs hw_69 rfl 4 (q := (95, [some (.ref 0), some (.int a), some (.int b), some (.int c), some (.int e), some (.int (σ3 19 0))], [], σ4)) (q' := (103, [some (.ref 0), some (.int a), some (.int b), some (.int c), some (.int e), some (.int (σ3 19 0))], [.int b, .ref 28], σ4)) rfl ?_
              refine PW.iald (n := 8) (ins_l hw_69 rfl) rfl (idx_in hb1.1 hb1.2).1 ?_
              exact PW.iret (ins_l hw_69 rfl) (Or.inl rfl) ⟨_, rfl, h⟩
        · replace h := (if_neg (c_eqF hc4)).mp h
          refine PW.runs hw_69 rfl 4 (q := (46, [some (.ref 0), some (.int a), some (.int b), some (.int c), some (.int e), none], [], σ3)) (q' := (54, [some (.ref 0), some (.int a), some (.int b), some (.int c), some (.int e), none], [.int a, .ref 20], σ3)) rfl ?_
          obtain ⟨hb1, h⟩ := h
          refine PW.iald (n := 5) (ins_l hw_69 rfl) rfl (idx_in hb1.1 hb1.2).1 ?_
          refine PW.runs hw_69 rfl 6 (q := (55, [some (.ref 0), some (.int a), some (.int b), some (.int c), some (.int e), none], [.int (σ3 20 (Int32.toNatClampNeg a))], σ3)) (q' := (74, [some (.ref 0), some (.int a), some (.int b), some (.int c), some (.int e), some (.int (σ3 20 (Int32.toNatClampNeg a)))], [.int c, .int (σ3 20 (Int32.toNatClampNeg a)), .ref 27], σ3)) rfl ?_
          refine PW.callV (b := 27) (vs := [.int (σ3 20 (Int32.toNatClampNeg a)), .int c]) (rest := []) (ins_l hw_69 rfl) rfl rfl rfl (Nat.le_of_ble_eq_true rfl) (Nat.le_of_ble_eq_true rfl) (PW.mono h ?_)
          rintro _ σ7 ⟨rfl, h⟩
          show PW none 69 77 [some (.ref 0), some (.int a), some (.int b), some (.int c), some (.int e), some (.int (σ3 20 (Int32.toNatClampNeg a)))] [] σ7 _
          refine PW.runs hw_69 rfl 1 (q := (77, [some (.ref 0), some (.int a), some (.int b), some (.int c), some (.int e), some (.int (σ3 20 (Int32.toNatClampNeg a)))], [], σ7)) (q' := (79, [some (.ref 0), some (.int a), some (.int b), some (.int c), some (.int e), some (.int (σ3 20 (Int32.toNatClampNeg a)))], [.int e], σ7)) rfl ?_
          refine PW.ifc (t := 95) (ins_l hw_69 rfl) rfl (fun hc5 => ?_) (fun hc5 => ?_)
          · replace h := (if_pos (c_eqT hc5)).mp h
            refine PW.runs hw_69 rfl 4 (q := (95, [some (.ref 0), some (.int a), some (.int b), some (.int c), some (.int e), some (.int (σ3 20 (Int32.toNatClampNeg a)))], [], σ7)) (q' := (103, [some (.ref 0), some (.int a), some (.int b), some (.int c), some (.int e), some (.int (σ3 20 (Int32.toNatClampNeg a)))], [.int b, .ref 28], σ7)) rfl ?_
            obtain ⟨hb2, h⟩ := h
            refine PW.iald (n := 8) (ins_l hw_69 rfl) rfl (idx_in hb2.1 hb2.2).1 ?_
            exact PW.iret (ins_l hw_69 rfl) (Or.inl rfl) ⟨_, rfl, h⟩
          · replace h := (if_neg (c_eqF hc5)).mp h
            refine PW.runs hw_69 rfl 4 (q := (82, [some (.ref 0), some (.int a), some (.int b), some (.int c), some (.int e), some (.int (σ3 20 (Int32.toNatClampNeg a)))], [], σ7)) (q' := (90, [some (.ref 0), some (.int a), some (.int b), some (.int c), some (.int e), some (.int (σ3 20 (Int32.toNatClampNeg a)))], [.int b, .ref 28], σ7)) rfl ?_
            obtain ⟨hb2, h⟩ := h
            refine PW.iald (n := 8) (ins_l hw_69 rfl) rfl (idx_in hb2.1 hb2.2).1 ?_
            refine PW.runs hw_69 rfl 1 (q := (91, [some (.ref 0), some (.int a), some (.int b), some (.int c), some (.int e), some (.int (σ3 20 (Int32.toNatClampNeg a)))], [.int (σ7 28 (Int32.toNatClampNeg b))], σ7)) (q' := (92, [some (.ref 0), some (.int a), some (.int b), some (.int c), some (.int e), some (.int (σ3 20 (Int32.toNatClampNeg a)))], [.int (-1), .int (σ7 28 (Int32.toNatClampNeg b))], σ7)) rfl ?_
            refine PW.icm (t := 105) (ins_l hw_69 rfl) rfl (fun hc6 => ?_) (fun hc6 => ?_)
            · replace h := (if_neg (c_neT hc6)).mp h
              refine PW.runs hw_69 rfl 2 (q := (105, [some (.ref 0), some (.int a), some (.int b), some (.int c), some (.int e), some (.int (σ3 20 (Int32.toNatClampNeg a)))], [], σ7)) (q' := (108, [some (.ref 0), some (.int a), some (.int b), some (.int c), some (.int e), some (.int (σ3 20 (Int32.toNatClampNeg a)))], [.int 1, .int e], σ7)) rfl ?_
              refine PW.icm (t := 124) (ins_l hw_69 rfl) rfl (fun hc7 => ?_) (fun hc7 => ?_)
              · replace h := (if_neg (c_neT hc7)).mp h
                refine PW.runs hw_69 rfl 7 (q := (124, [some (.ref 0), some (.int a), some (.int b), some (.int c), some (.int e), some (.int (σ3 20 (Int32.toNatClampNeg a)))], [], σ7)) (q' := (138, [some (.ref 0), some (.int a), some (.int b), some (.int c), some (.int e), some (.int (σ3 20 (Int32.toNatClampNeg a)))], [.int b, .int (σ7 19 0), .int (σ3 20 (Int32.toNatClampNeg a)), .ref 27], σ7)) rfl ?_
                refine PW.callV (b := 27) (vs := [.int (σ3 20 (Int32.toNatClampNeg a)), .int (σ7 19 0), .int b]) (rest := []) (ins_l hw_69 rfl) rfl rfl rfl (Nat.le_of_ble_eq_true rfl) (Nat.le_of_ble_eq_true rfl) (PW.mono h ?_)
                rintro _ σ8 ⟨v8, rfl, h⟩
                show PW none 69 141 [some (.ref 0), some (.int a), some (.int b), some (.int c), some (.int e), some (.int (σ3 20 (Int32.toNatClampNeg a)))] [.int v8] σ8 _
                exact PW.iret (ins_l hw_69 rfl) (Or.inl rfl) ⟨_, rfl, h⟩
              · replace h := (if_pos (c_neF hc7)).mp h
                refine PW.runs hw_69 rfl 4 (q := (111, [some (.ref 0), some (.int a), some (.int b), some (.int c), some (.int e), some (.int (σ3 20 (Int32.toNatClampNeg a)))], [], σ7)) (q' := (118, [some (.ref 0), some (.int a), some (.int b), some (.int c), some (.int e), some (.int (σ3 20 (Int32.toNatClampNeg a)))], [.int b, .int (σ3 20 (Int32.toNatClampNeg a)), .ref 27], σ7)) rfl ?_
                refine PW.callV (b := 27) (vs := [.int (σ3 20 (Int32.toNatClampNeg a)), .int b]) (rest := []) (ins_l hw_69 rfl) rfl rfl rfl (Nat.le_of_ble_eq_true rfl) (Nat.le_of_ble_eq_true rfl) (PW.mono h ?_)
                rintro _ σ9 ⟨v9, rfl, h⟩
                show PW none 69 121 [some (.ref 0), some (.int a), some (.int b), some (.int c), some (.int e), some (.int (σ3 20 (Int32.toNatClampNeg a)))] [.int v9] σ9 _
                refine PW.runs hw_69 rfl 1 (q := (121, [some (.ref 0), some (.int a), some (.int b), some (.int c), some (.int e), some (.int (σ3 20 (Int32.toNatClampNeg a)))], [.int v9], σ9)) (q' := (141, [some (.ref 0), some (.int a), some (.int b), some (.int c), some (.int e), some (.int (σ3 20 (Int32.toNatClampNeg a)))], [.int v9], σ9)) rfl ?_
                exact PW.iret (ins_l hw_69 rfl) (Or.inl rfl) ⟨_, rfl, h⟩
            · replace h := (if_pos (c_neF hc6)).mp h
              refine PW.runs hw_69 rfl 4 (q := (95, [some (.ref 0), some (.int a), some (.int b), some (.int c), some (.int e), some (.int (σ3 20 (Int32.toNatClampNeg a)))], [], σ7)) (q' := (103, [some (.ref 0), some (.int a), some (.int b), some (.int c), some (.int e), some (.int (σ3 20 (Int32.toNatClampNeg a)))], [.int b, .ref 28], σ7)) rfl ?_
              refine PW.iald (n := 8) (ins_l hw_69 rfl) rfl (idx_in hb2.1 hb2.2).1 ?_
              exact PW.iret (ins_l hw_69 rfl) (Or.inl rfl) ⟨_, rfl, h⟩
      · replace h := (if_pos (c_neF hc3)).mp h
        refine PW.runs hw_69 rfl 1 (q := (35, [some (.ref 0), some (.int a), some (.int b), some (.int c), some (.int e), none], [], σ2)) (q' := (37, [some (.ref 0), some (.int a), some (.int b), some (.int c), some (.int e), none], [.int (-1000000002)], σ2)) rfl ?_
        exact PW.iret (ins_l hw_69 rfl) (Or.inl rfl) ⟨_, rfl, h⟩
    · replace h := (if_pos (c_neF hc2)).mp h
      refine PW.runs hw_69 rfl 1 (q := (22, [some (.ref 0), some (.int a), some (.int b), some (.int c), some (.int e), none], [], σ1)) (q' := (24, [some (.ref 0), some (.int a), some (.int b), some (.int c), some (.int e), none], [.int (-1000000001)], σ1)) rfl ?_
      exact PW.iret (ins_l hw_69 rfl) (Or.inl rfl) ⟨_, rfl, h⟩
  · replace h := (if_neg (c_eqF hc1)).mp h
    refine PW.runs hw_69 rfl 2 (q := (5, [some (.ref 0), some (.int a), some (.int b), some (.int c), some (.int e), none], [], σ)) (q' := (7, [some (.ref 0), some (.int a), some (.int b), some (.int c), some (.int e), none], [.int a, .ref 0], σ)) rfl ?_
    refine PW.callV (b := 0) (vs := [.int a]) (rest := []) (ins_l hw_69 rfl) rfl rfl rfl (Nat.le_of_ble_eq_true rfl) (Nat.le_of_ble_eq_true rfl) (PW.mono h ?_)
    rintro _ σ10 ⟨v10, rfl, h⟩
    show PW none 69 10 [some (.ref 0), some (.int a), some (.int b), some (.int c), some (.int e), none] [.int v10] σ10 _
    refine PW.ifc (t := 22) (ins_l hw_69 rfl) rfl (fun hc2 => ?_) (fun hc2 => ?_)
    · replace h := (if_pos (c_eqT hc2)).mp h
      refine PW.runs hw_69 rfl 1 (q := (22, [some (.ref 0), some (.int a), some (.int b), some (.int c), some (.int e), none], [], σ10)) (q' := (24, [some (.ref 0), some (.int a), some (.int b), some (.int c), some (.int e), none], [.int (-1000000001)], σ10)) rfl ?_
      exact PW.iret (ins_l hw_69 rfl) (Or.inl rfl) ⟨_, rfl, h⟩
    · replace h := (if_neg (c_eqF hc2)).mp h
      refine PW.runs hw_69 rfl 3 (q := (13, [some (.ref 0), some (.int a), some (.int b), some (.int c), some (.int e), none], [], σ10)) (q' := (16, [some (.ref 0), some (.int a), some (.int b), some (.int c), some (.int e), none], [.int c, .int b, .ref 0], σ10)) rfl ?_
      refine PW.callV (b := 0) (vs := [.int b, .int c]) (rest := []) (ins_l hw_69 rfl) rfl rfl rfl (Nat.le_of_ble_eq_true rfl) (Nat.le_of_ble_eq_true rfl) (PW.mono h ?_)
      rintro _ σ11 ⟨v11, rfl, h⟩
      show PW none 69 19 [some (.ref 0), some (.int a), some (.int b), some (.int c), some (.int e), none] [.int v11] σ11 _
      refine PW.ifc (t := 25) (ins_l hw_69 rfl) rfl (fun hc3 => ?_) (fun hc3 => ?_)
      · replace h := (if_neg (c_neT hc3)).mp h
        refine PW.runs hw_69 rfl 3 (q := (25, [some (.ref 0), some (.int a), some (.int b), some (.int c), some (.int e), none], [], σ11)) (q' := (29, [some (.ref 0), some (.int a), some (.int b), some (.int c), some (.int e), none], [.int 2, .int 0, .int e], σ11)) rfl ?_
        refine PW.callS (vs := [.int e, .int 0, .int 2]) (rest := []) (ins_l hw_69 rfl) rfl (Or.inl rfl) rfl (Nat.le_of_ble_eq_true rfl) (Nat.le_of_ble_eq_true rfl) (PW.mono h ?_)
        rintro _ σ12 ⟨v12, rfl, h⟩
        show PW none 69 32 [some (.ref 0), some (.int a), some (.int b), some (.int c), some (.int e), none] [.int v12] σ12 _
        refine PW.ifc (t := 38) (ins_l hw_69 rfl) rfl (fun hc4 => ?_) (fun hc4 => ?_)
        · replace h := (if_neg (c_neT hc4)).mp h
          refine PW.runs hw_69 rfl 2 (q := (38, [some (.ref 0), some (.int a), some (.int b), some (.int c), some (.int e), none], [], σ12)) (q' := (40, [some (.ref 0), some (.int a), some (.int b), some (.int c), some (.int e), none], [.int a, .ref 0], σ12)) rfl ?_
          refine PW.callV (b := 0) (vs := [.int a]) (rest := []) (ins_l hw_69 rfl) rfl rfl rfl (Nat.le_of_ble_eq_true rfl) (Nat.le_of_ble_eq_true rfl) (PW.mono h ?_)
          rintro _ σ13 ⟨v13, rfl, h⟩
          show PW none 69 43 [some (.ref 0), some (.int a), some (.int b), some (.int c), some (.int e), none] [.int v13] σ13 _
          refine PW.ifc (t := 58) (ins_l hw_69 rfl) rfl (fun hc5 => ?_) (fun hc5 => ?_)
          · replace h := (if_pos (c_eqT hc5)).mp h
            refine PW.runs hw_69 rfl 8 (q := (58, [some (.ref 0), some (.int a), some (.int b), some (.int c), some (.int e), none], [], σ13)) (q' := (74, [some (.ref 0), some (.int a), some (.int b), some (.int c), some (.int e), some (.int (σ13 19 0))], [.int c, .int (σ13 19 0), .ref 27], σ13)) rfl ?_
            refine PW.callV (b := 27) (vs := [.int (σ13 19 0), .int c]) (rest := []) (ins_l hw_69 rfl) rfl rfl rfl (Nat.le_of_ble_eq_true rfl) (Nat.le_of_ble_eq_true rfl) (PW.mono h ?_)
            rintro _ σ14 ⟨rfl, h⟩
            show PW none 69 77 [some (.ref 0), some (.int a), some (.int b), some (.int c), some (.int e), some (.int (σ13 19 0))] [] σ14 _
            refine PW.runs hw_69 rfl 1 (q := (77, [some (.ref 0), some (.int a), some (.int b), some (.int c), some (.int e), some (.int (σ13 19 0))], [], σ14)) (q' := (79, [some (.ref 0), some (.int a), some (.int b), some (.int c), some (.int e), some (.int (σ13 19 0))], [.int e], σ14)) rfl ?_
            refine PW.ifc (t := 95) (ins_l hw_69 rfl) rfl (fun hc6 => ?_) (fun hc6 => ?_)
            · replace h := (if_pos (c_eqT hc6)).mp h
              refine PW.runs hw_69 rfl 4 (q := (95, [some (.ref 0), some (.int a), some (.int b), some (.int c), some (.int e), some (.int (σ13 19 0))], [], σ14)) (q' := (103, [some (.ref 0), some (.int a), some (.int b), some (.int c), some (.int e), some (.int (σ13 19 0))], [.int b, .ref 28], σ14)) rfl ?_
              obtain ⟨hb1, h⟩ := h
              refine PW.iald (n := 8) (ins_l hw_69 rfl) rfl (idx_in hb1.1 hb1.2).1 ?_
              exact PW.iret (ins_l hw_69 rfl) (Or.inl rfl) ⟨_, rfl, h⟩
            · replace h := (if_neg (c_eqF hc6)).mp h
              refine PW.runs hw_69 rfl 4 (q := (82, [some (.ref 0), some (.int a), some (.int b), some (.int c), some (.int e), some (.int (σ13 19 0))], [], σ14)) (q' := (90, [some (.ref 0), some (.int a), some (.int b), some (.int c), some (.int e), some (.int (σ13 19 0))], [.int b, .ref 28], σ14)) rfl ?_
              obtain ⟨hb1, h⟩ := h
              refine PW.iald (n := 8) (ins_l hw_69 rfl) rfl (idx_in hb1.1 hb1.2).1 ?_
              refine PW.runs hw_69 rfl 1 (q := (91, [some (.ref 0), some (.int a), some (.int b), some (.int c), some (.int e), some (.int (σ13 19 0))], [.int (σ14 28 (Int32.toNatClampNeg b))], σ14)) (q' := (92, [some (.ref 0), some (.int a), some (.int b), some (.int c), some (.int e), some (.int (σ13 19 0))], [.int (-1), .int (σ14 28 (Int32.toNatClampNeg b))], σ14)) rfl ?_
              refine PW.icm (t := 105) (ins_l hw_69 rfl) rfl (fun hc7 => ?_) (fun hc7 => ?_)
              · replace h := (if_neg (c_neT hc7)).mp h
                refine PW.runs hw_69 rfl 2 (q := (105, [some (.ref 0), some (.int a), some (.int b), some (.int c), some (.int e), some (.int (σ13 19 0))], [], σ14)) (q' := (108, [some (.ref 0), some (.int a), some (.int b), some (.int c), some (.int e), some (.int (σ13 19 0))], [.int 1, .int e], σ14)) rfl ?_
                refine PW.icm (t := 124) (ins_l hw_69 rfl) rfl (fun hc8 => ?_) (fun hc8 => ?_)
                · replace h := (if_neg (c_neT hc8)).mp h
                  refine PW.runs hw_69 rfl 7 (q := (124, [some (.ref 0), some (.int a), some (.int b), some (.int c), some (.int e), some (.int (σ13 19 0))], [], σ14)) (q' := (138, [some (.ref 0), some (.int a), some (.int b), some (.int c), some (.int e), some (.int (σ13 19 0))], [.int b, .int (σ14 19 0), .int (σ13 19 0), .ref 27], σ14)) rfl ?_
                  refine PW.callV (b := 27) (vs := [.int (σ13 19 0), .int (σ14 19 0), .int b]) (rest := []) (ins_l hw_69 rfl) rfl rfl rfl (Nat.le_of_ble_eq_true rfl) (Nat.le_of_ble_eq_true rfl) (PW.mono h ?_)
                  rintro _ σ15 ⟨v15, rfl, h⟩
                  show PW none 69 141 [some (.ref 0), some (.int a), some (.int b), some (.int c), some (.int e), some (.int (σ13 19 0))] [.int v15] σ15 _
                  exact PW.iret (ins_l hw_69 rfl) (Or.inl rfl) ⟨_, rfl, h⟩
                · replace h := (if_pos (c_neF hc8)).mp h
                  refine PW.runs hw_69 rfl 4 (q := (111, [some (.ref 0), some (.int a), some (.int b), some (.int c), some (.int e), some (.int (σ13 19 0))], [], σ14)) (q' := (118, [some (.ref 0), some (.int a), some (.int b), some (.int c), some (.int e), some (.int (σ13 19 0))], [.int b, .int (σ13 19 0), .ref 27], σ14)) rfl ?_
                  refine PW.callV (b := 27) (vs := [.int (σ13 19 0), .int b]) (rest := []) (ins_l hw_69 rfl) rfl rfl rfl (Nat.le_of_ble_eq_true rfl) (Nat.le_of_ble_eq_true rfl) (PW.mono h ?_)
                  rintro _ σ16 ⟨v16, rfl, h⟩
                  show PW none 69 121 [some (.ref 0), some (.int a), some (.int b), some (.int c), some (.int e), some (.int (σ13 19 0))] [.int v16] σ16 _
                  refine PW.runs hw_69 rfl 1 (q := (121, [some (.ref 0), some (.int a), some (.int b), some (.int c), some (.int e), some (.int (σ13 19 0))], [.int v16], σ16)) (q' := (141, [some (.ref 0), some (.int a), some (.int b), some (.int c), some (.int e), some (.int (σ13 19 0))], [.int v16], σ16)) rfl ?_
                  exact PW.iret (ins_l hw_69 rfl) (Or.inl rfl) ⟨_, rfl, h⟩
              · replace h := (if_pos (c_neF hc7)).mp h
                refine PW.runs hw_69 rfl 4 (q := (95, [some (.ref 0), some (.int a), some (.int b), some (.int c), some (.int e), some (.int (σ13 19 0))], [], σ14)) (q' := (103, [some (.ref 0), some (.int a), some (.int b), some (.int c), some (.int e), some (.int (σ13 19 0))], [.int b, .ref 28], σ14)) rfl ?_
                refine PW.iald (n := 8) (ins_l hw_69 rfl) rfl (idx_in hb1.1 hb1.2).1 ?_
                exact PW.iret (ins_l hw_69 rfl) (Or.inl rfl) ⟨_, rfl, h⟩
          · replace h := (if_neg (c_eqF hc5)).mp h
            refine PW.runs hw_69 rfl 4 (q := (46, [some (.ref 0), some (.int a), some (.int b), some (.int c), some (.int e), none], [], σ13)) (q' := (54, [some (.ref 0), some (.int a), some (.int b), some (.int c), some (.int e), none], [.int a, .ref 20], σ13)) rfl ?_
            obtain ⟨hb1, h⟩ := h
            refine PW.iald (n := 5) (ins_l hw_69 rfl) rfl (idx_in hb1.1 hb1.2).1 ?_
            refine PW.runs hw_69 rfl 6 (q := (55, [some (.ref 0), some (.int a), some (.int b), some (.int c), some (.int e), none], [.int (σ13 20 (Int32.toNatClampNeg a))], σ13)) (q' := (74, [some (.ref 0), some (.int a), some (.int b), some (.int c), some (.int e), some (.int (σ13 20 (Int32.toNatClampNeg a)))], [.int c, .int (σ13 20 (Int32.toNatClampNeg a)), .ref 27], σ13)) rfl ?_
            refine PW.callV (b := 27) (vs := [.int (σ13 20 (Int32.toNatClampNeg a)), .int c]) (rest := []) (ins_l hw_69 rfl) rfl rfl rfl (Nat.le_of_ble_eq_true rfl) (Nat.le_of_ble_eq_true rfl) (PW.mono h ?_)
            rintro _ σ17 ⟨rfl, h⟩
            show PW none 69 77 [some (.ref 0), some (.int a), some (.int b), some (.int c), some (.int e), some (.int (σ13 20 (Int32.toNatClampNeg a)))] [] σ17 _
            refine PW.runs hw_69 rfl 1 (q := (77, [some (.ref 0), some (.int a), some (.int b), some (.int c), some (.int e), some (.int (σ13 20 (Int32.toNatClampNeg a)))], [], σ17)) (q' := (79, [some (.ref 0), some (.int a), some (.int b), some (.int c), some (.int e), some (.int (σ13 20 (Int32.toNatClampNeg a)))], [.int e], σ17)) rfl ?_
            refine PW.ifc (t := 95) (ins_l hw_69 rfl) rfl (fun hc6 => ?_) (fun hc6 => ?_)
            · replace h := (if_pos (c_eqT hc6)).mp h
              refine PW.runs hw_69 rfl 4 (q := (95, [some (.ref 0), some (.int a), some (.int b), some (.int c), some (.int e), some (.int (σ13 20 (Int32.toNatClampNeg a)))], [], σ17)) (q' := (103, [some (.ref 0), some (.int a), some (.int b), some (.int c), some (.int e), some (.int (σ13 20 (Int32.toNatClampNeg a)))], [.int b, .ref 28], σ17)) rfl ?_
              obtain ⟨hb2, h⟩ := h
              refine PW.iald (n := 8) (ins_l hw_69 rfl) rfl (idx_in hb2.1 hb2.2).1 ?_
              exact PW.iret (ins_l hw_69 rfl) (Or.inl rfl) ⟨_, rfl, h⟩
            · replace h := (if_neg (c_eqF hc6)).mp h
              refine PW.runs hw_69 rfl 4 (q := (82, [some (.ref 0), some (.int a), some (.int b), some (.int c), some (.int e), some (.int (σ13 20 (Int32.toNatClampNeg a)))], [], σ17)) (q' := (90, [some (.ref 0), some (.int a), some (.int b), some (.int c), some (.int e), some (.int (σ13 20 (Int32.toNatClampNeg a)))], [.int b, .ref 28], σ17)) rfl ?_
              obtain ⟨hb2, h⟩ := h
              refine PW.iald (n := 8) (ins_l hw_69 rfl) rfl (idx_in hb2.1 hb2.2).1 ?_
              refine PW.runs hw_69 rfl 1 (q := (91, [some (.ref 0), some (.int a), some (.int b), some (.int c), some (.int e), some (.int (σ13 20 (Int32.toNatClampNeg a)))], [.int (σ17 28 (Int32.toNatClampNeg b))], σ17)) (q' := (92, [some (.ref 0), some (.int a), some (.int b), some (.int c), some (.int e), some (.int (σ13 20 (Int32.toNatClampNeg a)))], [.int (-1), .int (σ17 28 (Int32.toNatClampNeg b))], σ17)) rfl ?_
              refine PW.icm (t := 105) (ins_l hw_69 rfl) rfl (fun hc7 => ?_) (fun hc7 => ?_)
              · replace h := (if_neg (c_neT hc7)).mp h
                refine PW.runs hw_69 rfl 2 (q := (105, [some (.ref 0), some (.int a), some (.int b), some (.int c), some (.int e), some (.int (σ13 20 (Int32.toNatClampNeg a)))], [], σ17)) (q' := (108, [some (.ref 0), some (.int a), some (.int b), some (.int c), some (.int e), some (.int (σ13 20 (Int32.toNatClampNeg a)))], [.int 1, .int e], σ17)) rfl ?_
                refine PW.icm (t := 124) (ins_l hw_69 rfl) rfl (fun hc8 => ?_) (fun hc8 => ?_)
                · replace h := (if_neg (c_neT hc8)).mp h
                  refine PW.runs hw_69 rfl 7 (q := (124, [some (.ref 0), some (.int a), some (.int b), some (.int c), some (.int e), some (.int (σ13 20 (Int32.toNatClampNeg a)))], [], σ17)) (q' := (138, [some (.ref 0), some (.int a), some (.int b), some (.int c), some (.int e), some (.int (σ13 20 (Int32.toNatClampNeg a)))], [.int b, .int (σ17 19 0), .int (σ13 20 (Int32.toNatClampNeg a)), .ref 27], σ17)) rfl ?_
                  refine PW.callV (b := 27) (vs := [.int (σ13 20 (Int32.toNatClampNeg a)), .int (σ17 19 0), .int b]) (rest := []) (ins_l hw_69 rfl) rfl rfl rfl (Nat.le_of_ble_eq_true rfl) (Nat.le_of_ble_eq_true rfl) (PW.mono h ?_)
                  rintro _ σ18 ⟨v18, rfl, h⟩
                  show PW none 69 141 [some (.ref 0), some (.int a), some (.int b), some (.int c), some (.int e), some (.int (σ13 20 (Int32.toNatClampNeg a)))] [.int v18] σ18 _
                  exact PW.iret (ins_l hw_69 rfl) (Or.inl rfl) ⟨_, rfl, h⟩
                · replace h := (if_pos (c_neF hc8)).mp h
                  refine PW.runs hw_69 rfl 4 (q := (111, [some (.ref 0), some (.int a), some (.int b), some (.int c), some (.int e), some (.int (σ13 20 (Int32.toNatClampNeg a)))], [], σ17)) (q' := (118, [some (.ref 0), some (.int a), some (.int b), some (.int c), some (.int e), some (.int (σ13 20 (Int32.toNatClampNeg a)))], [.int b, .int (σ13 20 (Int32.toNatClampNeg a)), .ref 27], σ17)) rfl ?_
                  refine PW.callV (b := 27) (vs := [.int (σ13 20 (Int32.toNatClampNeg a)), .int b]) (rest := []) (ins_l hw_69 rfl) rfl rfl rfl (Nat.le_of_ble_eq_true rfl) (Nat.le_of_ble_eq_true rfl) (PW.mono h ?_)
                  rintro _ σ19 ⟨v19, rfl, h⟩
                  show PW none 69 121 [some (.ref 0), some (.int a), some (.int b), some (.int c), some (.int e), some (.int (σ13 20 (Int32.toNatClampNeg a)))] [.int v19] σ19 _
                  refine PW.runs hw_69 rfl 1 (q := (121, [some (.ref 0), some (.int a), some (.int b), some (.int c), some (.int e), some (.int (σ13 20 (Int32.toNatClampNeg a)))], [.int v19], σ19)) (q' := (141, [some (.ref 0), some (.int a), some (.int b), some (.int c), some (.int e), some (.int (σ13 20 (Int32.toNatClampNeg a)))], [.int v19], σ19)) rfl ?_
                  exact PW.iret (ins_l hw_69 rfl) (Or.inl rfl) ⟨_, rfl, h⟩
              · replace h := (if_pos (c_neF hc7)).mp h
                refine PW.runs hw_69 rfl 4 (q := (95, [some (.ref 0), some (.int a), some (.int b), some (.int c), some (.int e), some (.int (σ13 20 (Int32.toNatClampNeg a)))], [], σ17)) (q' := (103, [some (.ref 0), some (.int a), some (.int b), some (.int c), some (.int e), some (.int (σ13 20 (Int32.toNatClampNeg a)))], [.int b, .ref 28], σ17)) rfl ?_
                refine PW.iald (n := 8) (ins_l hw_69 rfl) rfl (idx_in hb2.1 hb2.2).1 ?_
                exact PW.iret (ins_l hw_69 rfl) (Or.inl rfl) ⟨_, rfl, h⟩
        · replace h := (if_pos (c_neF hc4)).mp h
          refine PW.runs hw_69 rfl 1 (q := (35, [some (.ref 0), some (.int a), some (.int b), some (.int c), some (.int e), none], [], σ12)) (q' := (37, [some (.ref 0), some (.int a), some (.int b), some (.int c), some (.int e), none], [.int (-1000000002)], σ12)) rfl ?_
          exact PW.iret (ins_l hw_69 rfl) (Or.inl rfl) ⟨_, rfl, h⟩
      · replace h := (if_pos (c_neF hc3)).mp h
        refine PW.runs hw_69 rfl 1 (q := (22, [some (.ref 0), some (.int a), some (.int b), some (.int c), some (.int e), none], [], σ11)) (q' := (24, [some (.ref 0), some (.int a), some (.int b), some (.int c), some (.int e), none], [.int (-1000000001)], σ11)) rfl ?_
        exact PW.iret (ins_l hw_69 rfl) (Or.inl rfl) ⟨_, rfl, h⟩
theorem hw_143 : pins.getD 143 [] = pi_143 := rfl
/-! MapDutyModel.fallsBehind.(I)I -/
set_option maxRecDepth 20000 in
theorem w_143 {a : Int32} {σ : St} {K : Int32 → St → Prop} (h : PI 143 2 [some (.ref 39), some (.int a), some (.int 0)] [] σ K) : CI 143 [.ref 39, .int a] σ K := by
  show PW none 143 0 [some (.ref 39), some (.int a), none] [] σ _
  refine PW.runs hw_143 rfl 2 (q := (0, [some (.ref 39), some (.int a), none], [], σ)) (q' := (2, [some (.ref 39), some (.int a), some (.int 0)], [], σ)) rfl ?_
  exact h
set_option maxRecDepth 20000 in
theorem w_143_2 {a : Int32} {x2 : Int32} {σ : St} {K : Int32 → St → Prop} (h : (if a ≤ x2 then K (-1) σ else ((0 ≤ x2.toInt ∧ x2.toInt < 8) ∧ CI 110 [.int (σ 46 10), .int (σ 55 (Int32.toNatClampNeg x2))] σ (fun v1 σ1 => (if v1 = 0 then K x2 σ1 else PI 143 2 [some (.ref 39), some (.int a), some (.int (x2 + 1))] [] σ1 K))))) : PI 143 2 [some (.ref 39), some (.int a), some (.int x2)] [] σ K := by
  show PW none 143 2 [some (.ref 39), some (.int a), some (.int x2)] [] σ _
  refine PW.runs hw_143 rfl 2 (q := (2, [some (.ref 39), some (.int a), some (.int x2)], [], σ)) (q' := (4, [some (.ref 39), some (.int a), some (.int x2)], [.int a, .int x2], σ)) rfl ?_
  refine PW.icm (t := 34) (ins_l hw_143 rfl) rfl (fun hc1 => ?_) (fun hc1 => ?_)
  · replace h := (if_pos (c_geT hc1)).mp h
    refine PW.runs hw_143 rfl 1 (q := (34, [some (.ref 39), some (.int a), some (.int x2)], [], σ)) (q' := (35, [some (.ref 39), some (.int a), some (.int x2)], [.int (-1)], σ)) rfl ?_
    exact PW.iret (ins_l hw_143 rfl) (Or.inl rfl) ⟨_, rfl, h⟩
  · replace h := (if_neg (c_geF hc1)).mp h
    refine PW.runs hw_143 rfl 3 (q := (7, [some (.ref 39), some (.int a), some (.int x2)], [], σ)) (q' := (13, [some (.ref 39), some (.int a), some (.int x2)], [.int 10, .ref 46], σ)) rfl ?_
    refine PW.iald (n := 14) (ins_l hw_143 rfl) rfl (by decide) ?_
    refine PW.runs hw_143 rfl 3 (q := (14, [some (.ref 39), some (.int a), some (.int x2)], [.int (σ 46 10)], σ)) (q' := (19, [some (.ref 39), some (.int a), some (.int x2)], [.int x2, .ref 55, .int (σ 46 10)], σ)) rfl ?_
    obtain ⟨hb1, h⟩ := h
    refine PW.iald (n := 8) (ins_l hw_143 rfl) rfl (idx_in hb1.1 hb1.2).1 ?_
    refine PW.callS (vs := [.int (σ 46 10), .int (σ 55 (Int32.toNatClampNeg x2))]) (rest := []) (ins_l hw_143 rfl) rfl (Or.inl rfl) rfl (Nat.le_of_ble_eq_true rfl) (Nat.le_of_ble_eq_true rfl) (PW.mono h ?_)
    rintro _ σ1 ⟨v1, rfl, h⟩
    show PW none 143 23 [some (.ref 39), some (.int a), some (.int x2)] [.int v1] σ1 _
    refine PW.ifc (t := 28) (ins_l hw_143 rfl) rfl (fun hc2 => ?_) (fun hc2 => ?_)
    · replace h := (if_neg (c_neT hc2)).mp h
      refine PW.runs hw_143 rfl 2 (q := (28, [some (.ref 39), some (.int a), some (.int x2)], [], σ1)) (q' := (2, [some (.ref 39), some (.int a), some (.int (x2 + 1))], [], σ1)) rfl ?_
      exact h
    · replace h := (if_pos (c_neF hc2)).mp h
      refine PW.runs hw_143 rfl 1 (q := (26, [some (.ref 39), some (.int a), some (.int x2)], [], σ1)) (q' := (27, [some (.ref 39), some (.int a), some (.int x2)], [.int x2], σ1)) rfl ?_
      exact PW.iret (ins_l hw_143 rfl) (Or.inl rfl) ⟨_, rfl, h⟩
theorem hw_170 : pins.getD 170 [] = pi_170 := rfl
/-! MapDutyModel.way.(IIII)I -/
set_option maxRecDepth 20000 in
theorem w_170 {a : Int32} {b : Int32} {c : Int32} {e : Int32} {σ : St} {K : Int32 → St → Prop} (h : (if a = (-1) then CI 113 [.ref 39, .int b, .int c] σ (fun v1 σ1 => (if v1 = 0 then K (-1000000001) σ1 else CI 109 [.long (Int32.toInt64 e), .long 0, .long 2] σ1 (fun v2 σ2 => (if v2 = 0 then K (-1000000002) σ2 else (if a = (-1) then CI 142 [.ref 39, .int b, .int c, .int (σ2 46 10)] σ2 (fun v5 σ5 => (if 0 ≤ v5 then (if e = 0 then K v5 σ5 else (if e = 1 then K (σ5 55 0) σ5 else CI 143 [.ref 39, .int v5] σ5 (fun v6 σ6 => K v6 σ6))) else K (-1) σ5)) else ((0 ≤ a.toInt ∧ a.toInt < 14) ∧ CI 142 [.ref 39, .int b, .int c, .int (σ2 46 (Int32.toNatClampNeg a))] σ2 (fun v3 σ3 => (if 0 ≤ v3 then (if e = 0 then K v3 σ3 else (if e = 1 then K (σ3 55 0) σ3 else CI 143 [.ref 39, .int v3] σ3 (fun v4 σ4 => K v4 σ4))) else K (-1) σ3)))))))) else CI 115 [.ref 39, .int a] σ (fun v7 σ7 => (if v7 = 0 then K (-1000000001) σ7 else CI 113 [.ref 39, .int b, .int c] σ7 (fun v8 σ8 => (if v8 = 0 then K (-1000000001) σ8 else CI 109 [.long (Int32.toInt64 e), .long 0, .long 2] σ8 (fun v9 σ9 => (if v9 = 0 then K (-1000000002) σ9 else (if a = (-1) then CI 142 [.ref 39, .int b, .int c, .int (σ9 46 10)] σ9 (fun v12 σ12 => (if 0 ≤ v12 then (if e = 0 then K v12 σ12 else (if e = 1 then K (σ12 55 0) σ12 else CI 143 [.ref 39, .int v12] σ12 (fun v13 σ13 => K v13 σ13))) else K (-1) σ12)) else ((0 ≤ a.toInt ∧ a.toInt < 14) ∧ CI 142 [.ref 39, .int b, .int c, .int (σ9 46 (Int32.toNatClampNeg a))] σ9 (fun v10 σ10 => (if 0 ≤ v10 then (if e = 0 then K v10 σ10 else (if e = 1 then K (σ10 55 0) σ10 else CI 143 [.ref 39, .int v10] σ10 (fun v11 σ11 => K v11 σ11))) else K (-1) σ10)))))))))))) : CI 170 [.ref 39, .int a, .int b, .int c, .int e] σ K := by
  show PW none 170 0 [some (.ref 39), some (.int a), some (.int b), some (.int c), some (.int e), none] [] σ _
  refine PW.runs hw_170 rfl 2 (q := (0, [some (.ref 39), some (.int a), some (.int b), some (.int c), some (.int e), none], [], σ)) (q' := (2, [some (.ref 39), some (.int a), some (.int b), some (.int c), some (.int e), none], [.int (-1), .int a], σ)) rfl ?_
  refine PW.icm (t := 13) (ins_l hw_170 rfl) rfl (fun hc1 => ?_) (fun hc1 => ?_)
  · replace h := (if_pos (c_eqT hc1)).mp h
    refine PW.runs hw_170 rfl 3 (q := (13, [some (.ref 39), some (.int a), some (.int b), some (.int c), some (.int e), none], [], σ)) (q' := (16, [some (.ref 39), some (.int a), some (.int b), some (.int c), some (.int e), none], [.int c, .int b, .ref 39], σ)) rfl ?_
    refine PW.callV (b := 39) (vs := [.int b, .int c]) (rest := []) (ins_l hw_170 rfl) rfl rfl rfl (Nat.le_of_ble_eq_true rfl) (Nat.le_of_ble_eq_true rfl) (PW.mono h ?_)
    rintro _ σ1 ⟨v1, rfl, h⟩
    show PW none 170 19 [some (.ref 39), some (.int a), some (.int b), some (.int c), some (.int e), none] [.int v1] σ1 _
    refine PW.ifc (t := 25) (ins_l hw_170 rfl) rfl (fun hc2 => ?_) (fun hc2 => ?_)
    · replace h := (if_neg (c_neT hc2)).mp h
      refine PW.runs hw_170 rfl 4 (q := (25, [some (.ref 39), some (.int a), some (.int b), some (.int c), some (.int e), none], [], σ1)) (q' := (32, [some (.ref 39), some (.int a), some (.int b), some (.int c), some (.int e), none], [.long 2, .long 0, .long (Int32.toInt64 e)], σ1)) rfl ?_
      refine PW.callS (vs := [.long (Int32.toInt64 e), .long 0, .long 2]) (rest := []) (ins_l hw_170 rfl) rfl (Or.inl rfl) rfl (Nat.le_of_ble_eq_true rfl) (Nat.le_of_ble_eq_true rfl) (PW.mono h ?_)
      rintro _ σ2 ⟨v2, rfl, h⟩
      show PW none 170 35 [some (.ref 39), some (.int a), some (.int b), some (.int c), some (.int e), none] [.int v2] σ2 _
      refine PW.ifc (t := 41) (ins_l hw_170 rfl) rfl (fun hc3 => ?_) (fun hc3 => ?_)
      · replace h := (if_neg (c_neT hc3)).mp h
        refine PW.runs hw_170 rfl 5 (q := (41, [some (.ref 39), some (.int a), some (.int b), some (.int c), some (.int e), none], [], σ2)) (q' := (46, [some (.ref 39), some (.int a), some (.int b), some (.int c), some (.int e), none], [.int (-1), .int a, .int c, .int b, .ref 39], σ2)) rfl ?_
        refine PW.icm (t := 59) (ins_l hw_170 rfl) rfl (fun hc4 => ?_) (fun hc4 => ?_)
        · replace h := (if_neg (c_neT hc4)).mp h
          refine PW.runs hw_170 rfl 3 (q := (59, [some (.ref 39), some (.int a), some (.int b), some (.int c), some (.int e), none], [.int c, .int b, .ref 39], σ2)) (q' := (64, [some (.ref 39), some (.int a), some (.int b), some (.int c), some (.int e), none], [.int a, .ref 46, .int c, .int b, .ref 39], σ2)) rfl ?_
          obtain ⟨hb1, h⟩ := h
          refine PW.iald (n := 14) (ins_l hw_170 rfl) rfl (idx_in hb1.1 hb1.2).1 ?_
          refine PW.callV (b := 39) (vs := [.int b, .int c, .int (σ2 46 (Int32.toNatClampNeg a))]) (rest := []) (ins_l hw_170 rfl) rfl rfl rfl (Nat.le_of_ble_eq_true rfl) (Nat.le_of_ble_eq_true rfl) (PW.mono h ?_)
          rintro _ σ3 ⟨v3, rfl, h⟩
          show PW none 170 68 [some (.ref 39), some (.int a), some (.int b), some (.int c), some (.int e), none] [.int v3] σ3 _
          refine PW.runs hw_170 rfl 2 (q := (68, [some (.ref 39), some (.int a), some (.int b), some (.int c), some (.int e), none], [.int v3], σ3)) (q' := (72, [some (.ref 39), some (.int a), some (.int b), some (.int c), some (.int e), some (.int v3)], [.int v3], σ3)) rfl ?_
          refine PW.ifc (t := 77) (ins_l hw_170 rfl) rfl (fun hc5 => ?_) (fun hc5 => ?_)
          · replace h := (if_pos (c_geT hc5)).mp h
            refine PW.runs hw_170 rfl 1 (q := (77, [some (.ref 39), some (.int a), some (.int b), some (.int c), some (.int e), some (.int v3)], [], σ3)) (q' := (79, [some (.ref 39), some (.int a), some (.int b), some (.int c), some (.int e), some (.int v3)], [.int e], σ3)) rfl ?_
            refine PW.ifc (t := 87) (ins_l hw_170 rfl) rfl (fun hc6 => ?_) (fun hc6 => ?_)
            · replace h := (if_neg (c_neT hc6)).mp h
              refine PW.runs hw_170 rfl 2 (q := (87, [some (.ref 39), some (.int a), some (.int b), some (.int c), some (.int e), some (.int v3)], [], σ3)) (q' := (90, [some (.ref 39), some (.int a), some (.int b), some (.int c), some (.int e), some (.int v3)], [.int 1, .int e], σ3)) rfl ?_
              refine PW.icm (t := 102) (ins_l hw_170 rfl) rfl (fun hc7 => ?_) (fun hc7 => ?_)
              · replace h := (if_neg (c_neT hc7)).mp h
                refine PW.runs hw_170 rfl 2 (q := (102, [some (.ref 39), some (.int a), some (.int b), some (.int c), some (.int e), some (.int v3)], [], σ3)) (q' := (105, [some (.ref 39), some (.int a), some (.int b), some (.int c), some (.int e), some (.int v3)], [.int v3, .ref 39], σ3)) rfl ?_
                refine PW.callV (b := 39) (vs := [.int v3]) (rest := []) (ins_l hw_170 rfl) rfl rfl rfl (Nat.le_of_ble_eq_true rfl) (Nat.le_of_ble_eq_true rfl) (PW.mono h ?_)
                rintro _ σ4 ⟨v4, rfl, h⟩
                show PW none 170 108 [some (.ref 39), some (.int a), some (.int b), some (.int c), some (.int e), some (.int v3)] [.int v4] σ4 _
                exact PW.iret (ins_l hw_170 rfl) (Or.inl rfl) ⟨_, rfl, h⟩
              · replace h := (if_pos (c_neF hc7)).mp h
                refine PW.runs hw_170 rfl 3 (q := (93, [some (.ref 39), some (.int a), some (.int b), some (.int c), some (.int e), some (.int v3)], [], σ3)) (q' := (98, [some (.ref 39), some (.int a), some (.int b), some (.int c), some (.int e), some (.int v3)], [.int 0, .ref 55], σ3)) rfl ?_
                refine PW.iald (n := 8) (ins_l hw_170 rfl) rfl (by decide) ?_
                refine PW.runs hw_170 rfl 1 (q := (99, [some (.ref 39), some (.int a), some (.int b), some (.int c), some (.int e), some (.int v3)], [.int (σ3 55 0)], σ3)) (q' := (108, [some (.ref 39), some (.int a), some (.int b), some (.int c), some (.int e), some (.int v3)], [.int (σ3 55 0)], σ3)) rfl ?_
                exact PW.iret (ins_l hw_170 rfl) (Or.inl rfl) ⟨_, rfl, h⟩
            · replace h := (if_pos (c_neF hc6)).mp h
              refine PW.runs hw_170 rfl 2 (q := (82, [some (.ref 39), some (.int a), some (.int b), some (.int c), some (.int e), some (.int v3)], [], σ3)) (q' := (108, [some (.ref 39), some (.int a), some (.int b), some (.int c), some (.int e), some (.int v3)], [.int v3], σ3)) rfl ?_
              exact PW.iret (ins_l hw_170 rfl) (Or.inl rfl) ⟨_, rfl, h⟩
          · replace h := (if_neg (c_geF hc5)).mp h
            refine PW.runs hw_170 rfl 1 (q := (75, [some (.ref 39), some (.int a), some (.int b), some (.int c), some (.int e), some (.int v3)], [], σ3)) (q' := (76, [some (.ref 39), some (.int a), some (.int b), some (.int c), some (.int e), some (.int v3)], [.int (-1)], σ3)) rfl ?_
            exact PW.iret (ins_l hw_170 rfl) (Or.inl rfl) ⟨_, rfl, h⟩
        · replace h := (if_pos (c_neF hc4)).mp h
          refine PW.runs hw_170 rfl 3 (q := (49, [some (.ref 39), some (.int a), some (.int b), some (.int c), some (.int e), none], [.int c, .int b, .ref 39], σ2)) (q' := (55, [some (.ref 39), some (.int a), some (.int b), some (.int c), some (.int e), none], [.int 10, .ref 46, .int c, .int b, .ref 39], σ2)) rfl ?_
          refine PW.iald (n := 14) (ins_l hw_170 rfl) rfl (by decide) ?_
          refine PW.runs hw_170 rfl 1 (q := (56, [some (.ref 39), some (.int a), some (.int b), some (.int c), some (.int e), none], [.int (σ2 46 10), .int c, .int b, .ref 39], σ2)) (q' := (65, [some (.ref 39), some (.int a), some (.int b), some (.int c), some (.int e), none], [.int (σ2 46 10), .int c, .int b, .ref 39], σ2)) rfl ?_
          refine PW.callV (b := 39) (vs := [.int b, .int c, .int (σ2 46 10)]) (rest := []) (ins_l hw_170 rfl) rfl rfl rfl (Nat.le_of_ble_eq_true rfl) (Nat.le_of_ble_eq_true rfl) (PW.mono h ?_)
          rintro _ σ5 ⟨v5, rfl, h⟩
          show PW none 170 68 [some (.ref 39), some (.int a), some (.int b), some (.int c), some (.int e), none] [.int v5] σ5 _
          refine PW.runs hw_170 rfl 2 (q := (68, [some (.ref 39), some (.int a), some (.int b), some (.int c), some (.int e), none], [.int v5], σ5)) (q' := (72, [some (.ref 39), some (.int a), some (.int b), some (.int c), some (.int e), some (.int v5)], [.int v5], σ5)) rfl ?_
          refine PW.ifc (t := 77) (ins_l hw_170 rfl) rfl (fun hc5 => ?_) (fun hc5 => ?_)
          · replace h := (if_pos (c_geT hc5)).mp h
            refine PW.runs hw_170 rfl 1 (q := (77, [some (.ref 39), some (.int a), some (.int b), some (.int c), some (.int e), some (.int v5)], [], σ5)) (q' := (79, [some (.ref 39), some (.int a), some (.int b), some (.int c), some (.int e), some (.int v5)], [.int e], σ5)) rfl ?_
            refine PW.ifc (t := 87) (ins_l hw_170 rfl) rfl (fun hc6 => ?_) (fun hc6 => ?_)
            · replace h := (if_neg (c_neT hc6)).mp h
              refine PW.runs hw_170 rfl 2 (q := (87, [some (.ref 39), some (.int a), some (.int b), some (.int c), some (.int e), some (.int v5)], [], σ5)) (q' := (90, [some (.ref 39), some (.int a), some (.int b), some (.int c), some (.int e), some (.int v5)], [.int 1, .int e], σ5)) rfl ?_
              refine PW.icm (t := 102) (ins_l hw_170 rfl) rfl (fun hc7 => ?_) (fun hc7 => ?_)
              · replace h := (if_neg (c_neT hc7)).mp h
                refine PW.runs hw_170 rfl 2 (q := (102, [some (.ref 39), some (.int a), some (.int b), some (.int c), some (.int e), some (.int v5)], [], σ5)) (q' := (105, [some (.ref 39), some (.int a), some (.int b), some (.int c), some (.int e), some (.int v5)], [.int v5, .ref 39], σ5)) rfl ?_
                refine PW.callV (b := 39) (vs := [.int v5]) (rest := []) (ins_l hw_170 rfl) rfl rfl rfl (Nat.le_of_ble_eq_true rfl) (Nat.le_of_ble_eq_true rfl) (PW.mono h ?_)
                rintro _ σ6 ⟨v6, rfl, h⟩
                show PW none 170 108 [some (.ref 39), some (.int a), some (.int b), some (.int c), some (.int e), some (.int v5)] [.int v6] σ6 _
                exact PW.iret (ins_l hw_170 rfl) (Or.inl rfl) ⟨_, rfl, h⟩
              · replace h := (if_pos (c_neF hc7)).mp h
                refine PW.runs hw_170 rfl 3 (q := (93, [some (.ref 39), some (.int a), some (.int b), some (.int c), some (.int e), some (.int v5)], [], σ5)) (q' := (98, [some (.ref 39), some (.int a), some (.int b), some (.int c), some (.int e), some (.int v5)], [.int 0, .ref 55], σ5)) rfl ?_
                refine PW.iald (n := 8) (ins_l hw_170 rfl) rfl (by decide) ?_
                refine PW.runs hw_170 rfl 1 (q := (99, [some (.ref 39), some (.int a), some (.int b), some (.int c), some (.int e), some (.int v5)], [.int (σ5 55 0)], σ5)) (q' := (108, [some (.ref 39), some (.int a), some (.int b), some (.int c), some (.int e), some (.int v5)], [.int (σ5 55 0)], σ5)) rfl ?_
                exact PW.iret (ins_l hw_170 rfl) (Or.inl rfl) ⟨_, rfl, h⟩
            · replace h := (if_pos (c_neF hc6)).mp h
              refine PW.runs hw_170 rfl 2 (q := (82, [some (.ref 39), some (.int a), some (.int b), some (.int c), some (.int e), some (.int v5)], [], σ5)) (q' := (108, [some (.ref 39), some (.int a), some (.int b), some (.int c), some (.int e), some (.int v5)], [.int v5], σ5)) rfl ?_
              exact PW.iret (ins_l hw_170 rfl) (Or.inl rfl) ⟨_, rfl, h⟩
          · replace h := (if_neg (c_geF hc5)).mp h
            refine PW.runs hw_170 rfl 1 (q := (75, [some (.ref 39), some (.int a), some (.int b), some (.int c), some (.int e), some (.int v5)], [], σ5)) (q' := (76, [some (.ref 39), some (.int a), some (.int b), some (.int c), some (.int e), some (.int v5)], [.int (-1)], σ5)) rfl ?_
            exact PW.iret (ins_l hw_170 rfl) (Or.inl rfl) ⟨_, rfl, h⟩
      · replace h := (if_pos (c_neF hc3)).mp h
        refine PW.runs hw_170 rfl 1 (q := (38, [some (.ref 39), some (.int a), some (.int b), some (.int c), some (.int e), none], [], σ2)) (q' := (40, [some (.ref 39), some (.int a), some (.int b), some (.int c), some (.int e), none], [.int (-1000000002)], σ2)) rfl ?_
        exact PW.iret (ins_l hw_170 rfl) (Or.inl rfl) ⟨_, rfl, h⟩
    · replace h := (if_pos (c_neF hc2)).mp h
      refine PW.runs hw_170 rfl 1 (q := (22, [some (.ref 39), some (.int a), some (.int b), some (.int c), some (.int e), none], [], σ1)) (q' := (24, [some (.ref 39), some (.int a), some (.int b), some (.int c), some (.int e), none], [.int (-1000000001)], σ1)) rfl ?_
      exact PW.iret (ins_l hw_170 rfl) (Or.inl rfl) ⟨_, rfl, h⟩
  · replace h := (if_neg (c_eqF hc1)).mp h
    refine PW.runs hw_170 rfl 2 (q := (5, [some (.ref 39), some (.int a), some (.int b), some (.int c), some (.int e), none], [], σ)) (q' := (7, [some (.ref 39), some (.int a), some (.int b), some (.int c), some (.int e), none], [.int a, .ref 39], σ)) rfl ?_
    refine PW.callV (b := 39) (vs := [.int a]) (rest := []) (ins_l hw_170 rfl) rfl rfl rfl (Nat.le_of_ble_eq_true rfl) (Nat.le_of_ble_eq_true rfl) (PW.mono h ?_)
    rintro _ σ7 ⟨v7, rfl, h⟩
    show PW none 170 10 [some (.ref 39), some (.int a), some (.int b), some (.int c), some (.int e), none] [.int v7] σ7 _
    refine PW.ifc (t := 22) (ins_l hw_170 rfl) rfl (fun hc2 => ?_) (fun hc2 => ?_)
    · replace h := (if_pos (c_eqT hc2)).mp h
      refine PW.runs hw_170 rfl 1 (q := (22, [some (.ref 39), some (.int a), some (.int b), some (.int c), some (.int e), none], [], σ7)) (q' := (24, [some (.ref 39), some (.int a), some (.int b), some (.int c), some (.int e), none], [.int (-1000000001)], σ7)) rfl ?_
      exact PW.iret (ins_l hw_170 rfl) (Or.inl rfl) ⟨_, rfl, h⟩
    · replace h := (if_neg (c_eqF hc2)).mp h
      refine PW.runs hw_170 rfl 3 (q := (13, [some (.ref 39), some (.int a), some (.int b), some (.int c), some (.int e), none], [], σ7)) (q' := (16, [some (.ref 39), some (.int a), some (.int b), some (.int c), some (.int e), none], [.int c, .int b, .ref 39], σ7)) rfl ?_
      refine PW.callV (b := 39) (vs := [.int b, .int c]) (rest := []) (ins_l hw_170 rfl) rfl rfl rfl (Nat.le_of_ble_eq_true rfl) (Nat.le_of_ble_eq_true rfl) (PW.mono h ?_)
      rintro _ σ8 ⟨v8, rfl, h⟩
      show PW none 170 19 [some (.ref 39), some (.int a), some (.int b), some (.int c), some (.int e), none] [.int v8] σ8 _
      refine PW.ifc (t := 25) (ins_l hw_170 rfl) rfl (fun hc3 => ?_) (fun hc3 => ?_)
      · replace h := (if_neg (c_neT hc3)).mp h
        refine PW.runs hw_170 rfl 4 (q := (25, [some (.ref 39), some (.int a), some (.int b), some (.int c), some (.int e), none], [], σ8)) (q' := (32, [some (.ref 39), some (.int a), some (.int b), some (.int c), some (.int e), none], [.long 2, .long 0, .long (Int32.toInt64 e)], σ8)) rfl ?_
        refine PW.callS (vs := [.long (Int32.toInt64 e), .long 0, .long 2]) (rest := []) (ins_l hw_170 rfl) rfl (Or.inl rfl) rfl (Nat.le_of_ble_eq_true rfl) (Nat.le_of_ble_eq_true rfl) (PW.mono h ?_)
        rintro _ σ9 ⟨v9, rfl, h⟩
        show PW none 170 35 [some (.ref 39), some (.int a), some (.int b), some (.int c), some (.int e), none] [.int v9] σ9 _
        refine PW.ifc (t := 41) (ins_l hw_170 rfl) rfl (fun hc4 => ?_) (fun hc4 => ?_)
        · replace h := (if_neg (c_neT hc4)).mp h
          refine PW.runs hw_170 rfl 5 (q := (41, [some (.ref 39), some (.int a), some (.int b), some (.int c), some (.int e), none], [], σ9)) (q' := (46, [some (.ref 39), some (.int a), some (.int b), some (.int c), some (.int e), none], [.int (-1), .int a, .int c, .int b, .ref 39], σ9)) rfl ?_
          refine PW.icm (t := 59) (ins_l hw_170 rfl) rfl (fun hc5 => ?_) (fun hc5 => ?_)
          · replace h := (if_neg (c_neT hc5)).mp h
            refine PW.runs hw_170 rfl 3 (q := (59, [some (.ref 39), some (.int a), some (.int b), some (.int c), some (.int e), none], [.int c, .int b, .ref 39], σ9)) (q' := (64, [some (.ref 39), some (.int a), some (.int b), some (.int c), some (.int e), none], [.int a, .ref 46, .int c, .int b, .ref 39], σ9)) rfl ?_
            obtain ⟨hb1, h⟩ := h
            refine PW.iald (n := 14) (ins_l hw_170 rfl) rfl (idx_in hb1.1 hb1.2).1 ?_
            refine PW.callV (b := 39) (vs := [.int b, .int c, .int (σ9 46 (Int32.toNatClampNeg a))]) (rest := []) (ins_l hw_170 rfl) rfl rfl rfl (Nat.le_of_ble_eq_true rfl) (Nat.le_of_ble_eq_true rfl) (PW.mono h ?_)
            rintro _ σ10 ⟨v10, rfl, h⟩
            show PW none 170 68 [some (.ref 39), some (.int a), some (.int b), some (.int c), some (.int e), none] [.int v10] σ10 _
            refine PW.runs hw_170 rfl 2 (q := (68, [some (.ref 39), some (.int a), some (.int b), some (.int c), some (.int e), none], [.int v10], σ10)) (q' := (72, [some (.ref 39), some (.int a), some (.int b), some (.int c), some (.int e), some (.int v10)], [.int v10], σ10)) rfl ?_
            refine PW.ifc (t := 77) (ins_l hw_170 rfl) rfl (fun hc6 => ?_) (fun hc6 => ?_)
            · replace h := (if_pos (c_geT hc6)).mp h
              refine PW.runs hw_170 rfl 1 (q := (77, [some (.ref 39), some (.int a), some (.int b), some (.int c), some (.int e), some (.int v10)], [], σ10)) (q' := (79, [some (.ref 39), some (.int a), some (.int b), some (.int c), some (.int e), some (.int v10)], [.int e], σ10)) rfl ?_
              refine PW.ifc (t := 87) (ins_l hw_170 rfl) rfl (fun hc7 => ?_) (fun hc7 => ?_)
              · replace h := (if_neg (c_neT hc7)).mp h
                refine PW.runs hw_170 rfl 2 (q := (87, [some (.ref 39), some (.int a), some (.int b), some (.int c), some (.int e), some (.int v10)], [], σ10)) (q' := (90, [some (.ref 39), some (.int a), some (.int b), some (.int c), some (.int e), some (.int v10)], [.int 1, .int e], σ10)) rfl ?_
                refine PW.icm (t := 102) (ins_l hw_170 rfl) rfl (fun hc8 => ?_) (fun hc8 => ?_)
                · replace h := (if_neg (c_neT hc8)).mp h
                  refine PW.runs hw_170 rfl 2 (q := (102, [some (.ref 39), some (.int a), some (.int b), some (.int c), some (.int e), some (.int v10)], [], σ10)) (q' := (105, [some (.ref 39), some (.int a), some (.int b), some (.int c), some (.int e), some (.int v10)], [.int v10, .ref 39], σ10)) rfl ?_
                  refine PW.callV (b := 39) (vs := [.int v10]) (rest := []) (ins_l hw_170 rfl) rfl rfl rfl (Nat.le_of_ble_eq_true rfl) (Nat.le_of_ble_eq_true rfl) (PW.mono h ?_)
                  rintro _ σ11 ⟨v11, rfl, h⟩
                  show PW none 170 108 [some (.ref 39), some (.int a), some (.int b), some (.int c), some (.int e), some (.int v10)] [.int v11] σ11 _
                  exact PW.iret (ins_l hw_170 rfl) (Or.inl rfl) ⟨_, rfl, h⟩
                · replace h := (if_pos (c_neF hc8)).mp h
                  refine PW.runs hw_170 rfl 3 (q := (93, [some (.ref 39), some (.int a), some (.int b), some (.int c), some (.int e), some (.int v10)], [], σ10)) (q' := (98, [some (.ref 39), some (.int a), some (.int b), some (.int c), some (.int e), some (.int v10)], [.int 0, .ref 55], σ10)) rfl ?_
                  refine PW.iald (n := 8) (ins_l hw_170 rfl) rfl (by decide) ?_
                  refine PW.runs hw_170 rfl 1 (q := (99, [some (.ref 39), some (.int a), some (.int b), some (.int c), some (.int e), some (.int v10)], [.int (σ10 55 0)], σ10)) (q' := (108, [some (.ref 39), some (.int a), some (.int b), some (.int c), some (.int e), some (.int v10)], [.int (σ10 55 0)], σ10)) rfl ?_
                  exact PW.iret (ins_l hw_170 rfl) (Or.inl rfl) ⟨_, rfl, h⟩
              · replace h := (if_pos (c_neF hc7)).mp h
                refine PW.runs hw_170 rfl 2 (q := (82, [some (.ref 39), some (.int a), some (.int b), some (.int c), some (.int e), some (.int v10)], [], σ10)) (q' := (108, [some (.ref 39), some (.int a), some (.int b), some (.int c), some (.int e), some (.int v10)], [.int v10], σ10)) rfl ?_
                exact PW.iret (ins_l hw_170 rfl) (Or.inl rfl) ⟨_, rfl, h⟩
            · replace h := (if_neg (c_geF hc6)).mp h
              refine PW.runs hw_170 rfl 1 (q := (75, [some (.ref 39), some (.int a), some (.int b), some (.int c), some (.int e), some (.int v10)], [], σ10)) (q' := (76, [some (.ref 39), some (.int a), some (.int b), some (.int c), some (.int e), some (.int v10)], [.int (-1)], σ10)) rfl ?_
              exact PW.iret (ins_l hw_170 rfl) (Or.inl rfl) ⟨_, rfl, h⟩
          · replace h := (if_pos (c_neF hc5)).mp h
            refine PW.runs hw_170 rfl 3 (q := (49, [some (.ref 39), some (.int a), some (.int b), some (.int c), some (.int e), none], [.int c, .int b, .ref 39], σ9)) (q' := (55, [some (.ref 39), some (.int a), some (.int b), some (.int c), some (.int e), none], [.int 10, .ref 46, .int c, .int b, .ref 39], σ9)) rfl ?_
            refine PW.iald (n := 14) (ins_l hw_170 rfl) rfl (by decide) ?_
            refine PW.runs hw_170 rfl 1 (q := (56, [some (.ref 39), some (.int a), some (.int b), some (.int c), some (.int e), none], [.int (σ9 46 10), .int c, .int b, .ref 39], σ9)) (q' := (65, [some (.ref 39), some (.int a), some (.int b), some (.int c), some (.int e), none], [.int (σ9 46 10), .int c, .int b, .ref 39], σ9)) rfl ?_
            refine PW.callV (b := 39) (vs := [.int b, .int c, .int (σ9 46 10)]) (rest := []) (ins_l hw_170 rfl) rfl rfl rfl (Nat.le_of_ble_eq_true rfl) (Nat.le_of_ble_eq_true rfl) (PW.mono h ?_)
            rintro _ σ12 ⟨v12, rfl, h⟩
            show PW none 170 68 [some (.ref 39), some (.int a), some (.int b), some (.int c), some (.int e), none] [.int v12] σ12 _
            refine PW.runs hw_170 rfl 2 (q := (68, [some (.ref 39), some (.int a), some (.int b), some (.int c), some (.int e), none], [.int v12], σ12)) (q' := (72, [some (.ref 39), some (.int a), some (.int b), some (.int c), some (.int e), some (.int v12)], [.int v12], σ12)) rfl ?_
            refine PW.ifc (t := 77) (ins_l hw_170 rfl) rfl (fun hc6 => ?_) (fun hc6 => ?_)
            · replace h := (if_pos (c_geT hc6)).mp h
              refine PW.runs hw_170 rfl 1 (q := (77, [some (.ref 39), some (.int a), some (.int b), some (.int c), some (.int e), some (.int v12)], [], σ12)) (q' := (79, [some (.ref 39), some (.int a), some (.int b), some (.int c), some (.int e), some (.int v12)], [.int e], σ12)) rfl ?_
              refine PW.ifc (t := 87) (ins_l hw_170 rfl) rfl (fun hc7 => ?_) (fun hc7 => ?_)
              · replace h := (if_neg (c_neT hc7)).mp h
                refine PW.runs hw_170 rfl 2 (q := (87, [some (.ref 39), some (.int a), some (.int b), some (.int c), some (.int e), some (.int v12)], [], σ12)) (q' := (90, [some (.ref 39), some (.int a), some (.int b), some (.int c), some (.int e), some (.int v12)], [.int 1, .int e], σ12)) rfl ?_
                refine PW.icm (t := 102) (ins_l hw_170 rfl) rfl (fun hc8 => ?_) (fun hc8 => ?_)
                · replace h := (if_neg (c_neT hc8)).mp h
                  refine PW.runs hw_170 rfl 2 (q := (102, [some (.ref 39), some (.int a), some (.int b), some (.int c), some (.int e), some (.int v12)], [], σ12)) (q' := (105, [some (.ref 39), some (.int a), some (.int b), some (.int c), some (.int e), some (.int v12)], [.int v12, .ref 39], σ12)) rfl ?_
                  refine PW.callV (b := 39) (vs := [.int v12]) (rest := []) (ins_l hw_170 rfl) rfl rfl rfl (Nat.le_of_ble_eq_true rfl) (Nat.le_of_ble_eq_true rfl) (PW.mono h ?_)
                  rintro _ σ13 ⟨v13, rfl, h⟩
                  show PW none 170 108 [some (.ref 39), some (.int a), some (.int b), some (.int c), some (.int e), some (.int v12)] [.int v13] σ13 _
                  exact PW.iret (ins_l hw_170 rfl) (Or.inl rfl) ⟨_, rfl, h⟩
                · replace h := (if_pos (c_neF hc8)).mp h
                  refine PW.runs hw_170 rfl 3 (q := (93, [some (.ref 39), some (.int a), some (.int b), some (.int c), some (.int e), some (.int v12)], [], σ12)) (q' := (98, [some (.ref 39), some (.int a), some (.int b), some (.int c), some (.int e), some (.int v12)], [.int 0, .ref 55], σ12)) rfl ?_
                  refine PW.iald (n := 8) (ins_l hw_170 rfl) rfl (by decide) ?_
                  refine PW.runs hw_170 rfl 1 (q := (99, [some (.ref 39), some (.int a), some (.int b), some (.int c), some (.int e), some (.int v12)], [.int (σ12 55 0)], σ12)) (q' := (108, [some (.ref 39), some (.int a), some (.int b), some (.int c), some (.int e), some (.int v12)], [.int (σ12 55 0)], σ12)) rfl ?_
                  exact PW.iret (ins_l hw_170 rfl) (Or.inl rfl) ⟨_, rfl, h⟩
              · replace h := (if_pos (c_neF hc7)).mp h
                refine PW.runs hw_170 rfl 2 (q := (82, [some (.ref 39), some (.int a), some (.int b), some (.int c), some (.int e), some (.int v12)], [], σ12)) (q' := (108, [some (.ref 39), some (.int a), some (.int b), some (.int c), some (.int e), some (.int v12)], [.int v12], σ12)) rfl ?_
                exact PW.iret (ins_l hw_170 rfl) (Or.inl rfl) ⟨_, rfl, h⟩
            · replace h := (if_neg (c_geF hc6)).mp h
              refine PW.runs hw_170 rfl 1 (q := (75, [some (.ref 39), some (.int a), some (.int b), some (.int c), some (.int e), some (.int v12)], [], σ12)) (q' := (76, [some (.ref 39), some (.int a), some (.int b), some (.int c), some (.int e), some (.int v12)], [.int (-1)], σ12)) rfl ?_
              exact PW.iret (ins_l hw_170 rfl) (Or.inl rfl) ⟨_, rfl, h⟩
        · replace h := (if_pos (c_neF hc4)).mp h
          refine PW.runs hw_170 rfl 1 (q := (38, [some (.ref 39), some (.int a), some (.int b), some (.int c), some (.int e), none], [], σ9)) (q' := (40, [some (.ref 39), some (.int a), some (.int b), some (.int c), some (.int e), none], [.int (-1000000002)], σ9)) rfl ?_
          exact PW.iret (ins_l hw_170 rfl) (Or.inl rfl) ⟨_, rfl, h⟩
      · replace h := (if_pos (c_neF hc3)).mp h
        refine PW.runs hw_170 rfl 1 (q := (22, [some (.ref 39), some (.int a), some (.int b), some (.int c), some (.int e), none], [], σ8)) (q' := (24, [some (.ref 39), some (.int a), some (.int b), some (.int c), some (.int e), none], [.int (-1000000001)], σ8)) rfl ?_
        exact PW.iret (ins_l hw_170 rfl) (Or.inl rfl) ⟨_, rfl, h⟩
/-! MapDutyModel.across.(II)I -/
set_option maxRecDepth 20000 in
theorem w_138 {a : Int32} {b : Int32} {σ : St} {K : Int32 → St → Prop} (h : ((0 ≤ a.toInt ∧ a.toInt < 12) ∧ (if (σ 40 (Int32.toNatClampNeg a)) = b then K (σ 41 (Int32.toNatClampNeg a)) σ else (if (σ 41 (Int32.toNatClampNeg a)) = b then K (σ 40 (Int32.toNatClampNeg a)) σ else K (-1) σ)))) : CI 138 [.ref 39, .int a, .int b] σ K := by
  show PW none 138 0 [some (.ref 39), some (.int a), some (.int b)] [] σ _
  refine PW.runs hw_138 rfl 3 (q := (0, [some (.ref 39), some (.int a), some (.int b)], [], σ)) (q' := (5, [some (.ref 39), some (.int a), some (.int b)], [.int a, .ref 40], σ)) rfl ?_
  obtain ⟨hb1, h⟩ := h
  refine PW.iald (n := 12) (ins_l hw_138 rfl) rfl (idx_in hb1.1 hb1.2).1 ?_
  refine PW.runs hw_138 rfl 1 (q := (6, [some (.ref 39), some (.int a), some (.int b)], [.int (σ 40 (Int32.toNatClampNeg a))], σ)) (q' := (7, [some (.ref 39), some (.int a), some (.int b)], [.int b, .int (σ 40 (Int32.toNatClampNeg a))], σ)) rfl ?_
  refine PW.icm (t := 19) (ins_l hw_138 rfl) rfl (fun hc1 => ?_) (fun hc1 => ?_)
  · replace h := (if_neg (c_neT hc1)).mp h
    refine PW.runs hw_138 rfl 3 (q := (19, [some (.ref 39), some (.int a), some (.int b)], [], σ)) (q' := (24, [some (.ref 39), some (.int a), some (.int b)], [.int a, .ref 41], σ)) rfl ?_
    refine PW.iald (n := 12) (ins_l hw_138 rfl) rfl (idx_in hb1.1 hb1.2).1 ?_
    refine PW.runs hw_138 rfl 1 (q := (25, [some (.ref 39), some (.int a), some (.int b)], [.int (σ 41 (Int32.toNatClampNeg a))], σ)) (q' := (26, [some (.ref 39), some (.int a), some (.int b)], [.int b, .int (σ 41 (Int32.toNatClampNeg a))], σ)) rfl ?_
    refine PW.icm (t := 38) (ins_l hw_138 rfl) rfl (fun hc2 => ?_) (fun hc2 => ?_)
    · replace h := (if_neg (c_neT hc2)).mp h
      refine PW.runs hw_138 rfl 1 (q := (38, [some (.ref 39), some (.int a), some (.int b)], [], σ)) (q' := (39, [some (.ref 39), some (.int a), some (.int b)], [.int (-1)], σ)) rfl ?_
      exact PW.iret (ins_l hw_138 rfl) (Or.inl rfl) ⟨_, rfl, h⟩
    · replace h := (if_pos (c_neF hc2)).mp h
      refine PW.runs hw_138 rfl 3 (q := (29, [some (.ref 39), some (.int a), some (.int b)], [], σ)) (q' := (34, [some (.ref 39), some (.int a), some (.int b)], [.int a, .ref 40], σ)) rfl ?_
      refine PW.iald (n := 12) (ins_l hw_138 rfl) rfl (idx_in hb1.1 hb1.2).1 ?_
      refine PW.runs hw_138 rfl 1 (q := (35, [some (.ref 39), some (.int a), some (.int b)], [.int (σ 40 (Int32.toNatClampNeg a))], σ)) (q' := (39, [some (.ref 39), some (.int a), some (.int b)], [.int (σ 40 (Int32.toNatClampNeg a))], σ)) rfl ?_
      exact PW.iret (ins_l hw_138 rfl) (Or.inl rfl) ⟨_, rfl, h⟩
  · replace h := (if_pos (c_neF hc1)).mp h
    refine PW.runs hw_138 rfl 3 (q := (10, [some (.ref 39), some (.int a), some (.int b)], [], σ)) (q' := (15, [some (.ref 39), some (.int a), some (.int b)], [.int a, .ref 41], σ)) rfl ?_
    refine PW.iald (n := 12) (ins_l hw_138 rfl) rfl (idx_in hb1.1 hb1.2).1 ?_
    refine PW.runs hw_138 rfl 1 (q := (16, [some (.ref 39), some (.int a), some (.int b)], [.int (σ 41 (Int32.toNatClampNeg a))], σ)) (q' := (39, [some (.ref 39), some (.int a), some (.int b)], [.int (σ 41 (Int32.toNatClampNeg a))], σ)) rfl ?_
    exact PW.iret (ins_l hw_138 rfl) (Or.inl rfl) ⟨_, rfl, h⟩
/-! MapDutyModel.findFar.(II)V -/
set_option maxRecDepth 20000 in
theorem w_141 {a : Int32} {b : Int32} {σ : St} {K : St → Prop} (h : PV 141 2 [some (.ref 39), some (.int a), some (.int b), some (.int 0), none, none, none] [] σ K) : CV 141 [.ref 39, .int a, .int b] σ K := by
  show PW none 141 0 [some (.ref 39), some (.int a), some (.int b), none, none, none, none] [] σ _
  refine PW.runs hw_141 rfl 2 (q := (0, [some (.ref 39), some (.int a), some (.int b), none, none, none, none], [], σ)) (q' := (2, [some (.ref 39), some (.int a), some (.int b), some (.int 0), none, none, none], [], σ)) rfl ?_
  exact h
set_option maxRecDepth 20000 in
theorem w_141_2 {a : Int32} {b : Int32} {x3 : Int32} {σ : St} {K : St → Prop} (h : (if (σ 39 0) ≤ x3 then PV 141 35 [some (.ref 39), some (.int a), some (.int b), some (.int 0), none, none, none] [] σ K else (if x3 = a then ((0 ≤ x3.toInt ∧ x3.toInt < 8) ∧ PV 141 2 [some (.ref 39), some (.int a), some (.int b), some (.int (x3 + 1)), none, none, none] [] (s2 σ 54 (Int32.toNatClampNeg x3) 0) K) else ((0 ≤ x3.toInt ∧ x3.toInt < 8) ∧ PV 141 2 [some (.ref 39), some (.int a), some (.int b), some (.int (x3 + 1)), none, none, none] [] (s2 σ 54 (Int32.toNatClampNeg x3) 1000000) K)))) : PV 141 2 [some (.ref 39), some (.int a), some (.int b), some (.int x3), none, none, none] [] σ K := by
  show PW none 141 2 [some (.ref 39), some (.int a), some (.int b), some (.int x3), none, none, none] [] σ _
  refine PW.runs hw_141 rfl 3 (q := (2, [some (.ref 39), some (.int a), some (.int b), some (.int x3), none, none, none], [], σ)) (q' := (7, [some (.ref 39), some (.int a), some (.int b), some (.int x3), none, none, none], [.int (σ 39 0), .int x3], σ)) rfl ?_
  refine PW.icm (t := 33) (ins_l hw_141 rfl) rfl (fun hc1 => ?_) (fun hc1 => ?_)
  · replace h := (if_pos (c_geT hc1)).mp h
    refine PW.runs hw_141 rfl 2 (q := (33, [some (.ref 39), some (.int a), some (.int b), some (.int x3), none, none, none], [], σ)) (q' := (35, [some (.ref 39), some (.int a), some (.int b), some (.int 0), none, none, none], [], σ)) rfl ?_
    exact h
  · replace h := (if_neg (c_geF hc1)).mp h
    refine PW.runs hw_141 rfl 5 (q := (10, [some (.ref 39), some (.int a), some (.int b), some (.int x3), none, none, none], [], σ)) (q' := (17, [some (.ref 39), some (.int a), some (.int b), some (.int x3), none, none, none], [.int a, .int x3, .int x3, .ref 54], σ)) rfl ?_
    refine PW.icm (t := 24) (ins_l hw_141 rfl) rfl (fun hc2 => ?_) (fun hc2 => ?_)
    · replace h := (if_neg (c_neT hc2)).mp h
      refine PW.runs hw_141 rfl 1 (q := (24, [some (.ref 39), some (.int a), some (.int b), some (.int x3), none, none, none], [.int x3, .ref 54], σ)) (q' := (26, [some (.ref 39), some (.int a), some (.int b), some (.int x3), none, none, none], [.int 1000000, .int x3, .ref 54], σ)) rfl ?_
      obtain ⟨hb1, h⟩ := h
      refine PW.iast (n := 8) (ins_l hw_141 rfl) rfl (idx_in hb1.1 hb1.2).1 ?_
      refine PW.runs hw_141 rfl 2 (q := (27, [some (.ref 39), some (.int a), some (.int b), some (.int x3), none, none, none], [], (s2 σ 54 (Int32.toNatClampNeg x3) 1000000))) (q' := (2, [some (.ref 39), some (.int a), some (.int b), some (.int (x3 + 1)), none, none, none], [], (s2 σ 54 (Int32.toNatClampNeg x3) 1000000))) rfl ?_
      exact h
    · replace h := (if_pos (c_neF hc2)).mp h
      refine PW.runs hw_141 rfl 2 (q := (20, [some (.ref 39), some (.int a), some (.int b), some (.int x3), none, none, none], [.int x3, .ref 54], σ)) (q' := (26, [some (.ref 39), some (.int a), some (.int b), some (.int x3), none, none, none], [.int 0, .int x3, .ref 54], σ)) rfl ?_
      obtain ⟨hb1, h⟩ := h
      refine PW.iast (n := 8) (ins_l hw_141 rfl) rfl (idx_in hb1.1 hb1.2).1 ?_
      refine PW.runs hw_141 rfl 2 (q := (27, [some (.ref 39), some (.int a), some (.int b), some (.int x3), none, none, none], [], (s2 σ 54 (Int32.toNatClampNeg x3) 0))) (q' := (2, [some (.ref 39), some (.int a), some (.int b), some (.int (x3 + 1)), none, none, none], [], (s2 σ 54 (Int32.toNatClampNeg x3) 0))) rfl ?_
      exact h
set_option maxRecDepth 20000 in
theorem w_141_35 {a : Int32} {b : Int32} {x3 : Int32} {o4 : Option Value} {o5 : Option Value} {o6 : Option Value} {σ : St} {K : St → Prop} (h : (if (σ 39 0) ≤ x3 then K σ else PV 141 46 [some (.ref 39), some (.int a), some (.int b), some (.int x3), some (.int 0), o5, o6] [] σ K)) : PV 141 35 [some (.ref 39), some (.int a), some (.int b), some (.int x3), o4, o5, o6] [] σ K := by
  show PW none 141 35 [some (.ref 39), some (.int a), some (.int b), some (.int x3), o4, o5, o6] [] σ _
  refine PW.runs hw_141 rfl 3 (q := (35, [some (.ref 39), some (.int a), some (.int b), some (.int x3), o4, o5, o6], [], σ)) (q' := (40, [some (.ref 39), some (.int a), some (.int b), some (.int x3), o4, o5, o6], [.int (σ 39 0), .int x3], σ)) rfl ?_
  refine PW.icm (t := 184) (ins_l hw_141 rfl) rfl (fun hc1 => ?_) (fun hc1 => ?_)
  · replace h := (if_pos (c_geT hc1)).mp h
    exact PW.vret (ins_l hw_141 rfl) rfl ⟨rfl, h⟩
  · replace h := (if_neg (c_geF hc1)).mp h
    refine PW.runs hw_141 rfl 2 (q := (43, [some (.ref 39), some (.int a), some (.int b), some (.int x3), o4, o5, o6], [], σ)) (q' := (46, [some (.ref 39), some (.int a), some (.int b), some (.int x3), some (.int 0), o5, o6], [], σ)) rfl ?_
    exact h
set_option maxRecDepth 20000 in
theorem w_141_46 {a : Int32} {b : Int32} {x3 : Int32} {x4 : Int32} {o5 : Option Value} {o6 : Option Value} {σ : St} {K : St → Prop} (h : (if (σ 39 1) ≤ x4 then PV 141 35 [some (.ref 39), some (.int a), some (.int b), some (.int (x3 + 1)), some (.int x4), o5, o6] [] σ K else ((0 ≤ x4.toInt ∧ x4.toInt < 12) ∧ CI 110 [.int b, .int x4] σ (fun v1 σ1 => (if v1 = 0 then PV 141 46 [some (.ref 39), some (.int a), some (.int b), some (.int x3), some (.int (x4 + 1)), some (.int (σ 40 (Int32.toNatClampNeg x4))), some (.int (σ 41 (Int32.toNatClampNeg x4)))] [] σ1 K else ((0 ≤ (σ 41 (Int32.toNatClampNeg x4)).toInt ∧ (σ 41 (Int32.toNatClampNeg x4)).toInt < 8) ∧ ((0 ≤ (σ 40 (Int32.toNatClampNeg x4)).toInt ∧ (σ 40 (Int32.toNatClampNeg x4)).toInt < 8) ∧ (if (σ1 54 (Int32.toNatClampNeg (σ 40 (Int32.toNatClampNeg x4)))) ≤ ((σ1 54 (Int32.toNatClampNeg (σ 41 (Int32.toNatClampNeg x4)))) + 1) then (if ((s2 σ1 54 (Int32.toNatClampNeg (σ 40 (Int32.toNatClampNeg x4))) (σ1 54 (Int32.toNatClampNeg (σ 40 (Int32.toNatClampNeg x4))))) 54 (Int32.toNatClampNeg (σ 41 (Int32.toNatClampNeg x4)))) ≤ (((s2 σ1 54 (Int32.toNatClampNeg (σ 40 (Int32.toNatClampNeg x4))) (σ1 54 (Int32.toNatClampNeg (σ 40 (Int32.toNatClampNeg x4))))) 54 (Int32.toNatClampNeg (σ 40 (Int32.toNatClampNeg x4)))) + 1) then PV 141 46 [some (.ref 39), some (.int a), some (.int b), some (.int x3), some (.int (x4 + 1)), some (.int (σ 40 (Int32.toNatClampNeg x4))), some (.int (σ 41 (Int32.toNatClampNeg x4)))] [] (s2 (s2 σ1 54 (Int32.toNatClampNeg (σ 40 (Int32.toNatClampNeg x4))) (σ1 54 (Int32.toNatClampNeg (σ 40 (Int32.toNatClampNeg x4))))) 54 (Int32.toNatClampNeg (σ 41 (Int32.toNatClampNeg x4))) ((s2 σ1 54 (Int32.toNatClampNeg (σ 40 (Int32.toNatClampNeg x4))) (σ1 54 (Int32.toNatClampNeg (σ 40 (Int32.toNatClampNeg x4))))) 54 (Int32.toNatClampNeg (σ 41 (Int32.toNatClampNeg x4))))) K else PV 141 46 [some (.ref 39), some (.int a), some (.int b), some (.int x3), some (.int (x4 + 1)), some (.int (σ 40 (Int32.toNatClampNeg x4))), some (.int (σ 41 (Int32.toNatClampNeg x4)))] [] (s2 (s2 σ1 54 (Int32.toNatClampNeg (σ 40 (Int32.toNatClampNeg x4))) (σ1 54 (Int32.toNatClampNeg (σ 40 (Int32.toNatClampNeg x4))))) 54 (Int32.toNatClampNeg (σ 41 (Int32.toNatClampNeg x4))) (((s2 σ1 54 (Int32.toNatClampNeg (σ 40 (Int32.toNatClampNeg x4))) (σ1 54 (Int32.toNatClampNeg (σ 40 (Int32.toNatClampNeg x4))))) 54 (Int32.toNatClampNeg (σ 40 (Int32.toNatClampNeg x4)))) + 1)) K) else (if ((s2 σ1 54 (Int32.toNatClampNeg (σ 40 (Int32.toNatClampNeg x4))) ((σ1 54 (Int32.toNatClampNeg (σ 41 (Int32.toNatClampNeg x4)))) + 1)) 54 (Int32.toNatClampNeg (σ 41 (Int32.toNatClampNeg x4)))) ≤ (((s2 σ1 54 (Int32.toNatClampNeg (σ 40 (Int32.toNatClampNeg x4))) ((σ1 54 (Int32.toNatClampNeg (σ 41 (Int32.toNatClampNeg x4)))) + 1)) 54 (Int32.toNatClampNeg (σ 40 (Int32.toNatClampNeg x4)))) + 1) then PV 141 46 [some (.ref 39), some (.int a), some (.int b), some (.int x3), some (.int (x4 + 1)), some (.int (σ 40 (Int32.toNatClampNeg x4))), some (.int (σ 41 (Int32.toNatClampNeg x4)))] [] (s2 (s2 σ1 54 (Int32.toNatClampNeg (σ 40 (Int32.toNatClampNeg x4))) ((σ1 54 (Int32.toNatClampNeg (σ 41 (Int32.toNatClampNeg x4)))) + 1)) 54 (Int32.toNatClampNeg (σ 41 (Int32.toNatClampNeg x4))) ((s2 σ1 54 (Int32.toNatClampNeg (σ 40 (Int32.toNatClampNeg x4))) ((σ1 54 (Int32.toNatClampNeg (σ 41 (Int32.toNatClampNeg x4)))) + 1)) 54 (Int32.toNatClampNeg (σ 41 (Int32.toNatClampNeg x4))))) K else PV 141 46 [some (.ref 39), some (.int a), some (.int b), some (.int x3), some (.int (x4 + 1)), some (.int (σ 40 (Int32.toNatClampNeg x4))), some (.int (σ 41 (Int32.toNatClampNeg x4)))] [] (s2 (s2 σ1 54 (Int32.toNatClampNeg (σ 40 (Int32.toNatClampNeg x4))) ((σ1 54 (Int32.toNatClampNeg (σ 41 (Int32.toNatClampNeg x4)))) + 1)) 54 (Int32.toNatClampNeg (σ 41 (Int32.toNatClampNeg x4))) (((s2 σ1 54 (Int32.toNatClampNeg (σ 40 (Int32.toNatClampNeg x4))) ((σ1 54 (Int32.toNatClampNeg (σ 41 (Int32.toNatClampNeg x4)))) + 1)) 54 (Int32.toNatClampNeg (σ 40 (Int32.toNatClampNeg x4)))) + 1)) K))))))))) : PV 141 46 [some (.ref 39), some (.int a), some (.int b), some (.int x3), some (.int x4), o5, o6] [] σ K := by
  show PW none 141 46 [some (.ref 39), some (.int a), some (.int b), some (.int x3), some (.int x4), o5, o6] [] σ _
  refine PW.runs hw_141 rfl 3 (q := (46, [some (.ref 39), some (.int a), some (.int b), some (.int x3), some (.int x4), o5, o6], [], σ)) (q' := (52, [some (.ref 39), some (.int a), some (.int b), some (.int x3), some (.int x4), o5, o6], [.int (σ 39 1), .int x4], σ)) rfl ?_
  refine PW.icm (t := 178) (ins_l hw_141 rfl) rfl (fun hc1 => ?_) (fun hc1 => ?_)
  · replace h := (if_pos (c_geT hc1)).mp h
    refine PW.runs hw_141 rfl 2 (q := (178, [some (.ref 39), some (.int a), some (.int b), some (.int x3), some (.int x4), o5, o6], [], σ)) (q' := (35, [some (.ref 39), some (.int a), some (.int b), some (.int (x3 + 1)), some (.int x4), o5, o6], [], σ)) rfl ?_
    exact h
  · replace h := (if_neg (c_geF hc1)).mp h
    refine PW.runs hw_141 rfl 3 (q := (55, [some (.ref 39), some (.int a), some (.int b), some (.int x3), some (.int x4), o5, o6], [], σ)) (q' := (61, [some (.ref 39), some (.int a), some (.int b), some (.int x3), some (.int x4), o5, o6], [.int x4, .ref 40], σ)) rfl ?_
    obtain ⟨hb1, h⟩ := h
    refine PW.iald (n := 12) (ins_l hw_141 rfl) rfl (idx_in hb1.1 hb1.2).1 ?_
    refine PW.runs hw_141 rfl 4 (q := (62, [some (.ref 39), some (.int a), some (.int b), some (.int x3), some (.int x4), o5, o6], [.int (σ 40 (Int32.toNatClampNeg x4))], σ)) (q' := (70, [some (.ref 39), some (.int a), some (.int b), some (.int x3), some (.int x4), some (.int (σ 40 (Int32.toNatClampNeg x4))), o6], [.int x4, .ref 41], σ)) rfl ?_
    refine PW.iald (n := 12) (ins_l hw_141 rfl) rfl (idx_in hb1.1 hb1.2).1 ?_
    refine PW.runs hw_141 rfl 3 (q := (71, [some (.ref 39), some (.int a), some (.int b), some (.int x3), some (.int x4), some (.int (σ 40 (Int32.toNatClampNeg x4))), o6], [.int (σ 41 (Int32.toNatClampNeg x4))], σ)) (q' := (76, [some (.ref 39), some (.int a), some (.int b), some (.int x3), some (.int x4), some (.int (σ 40 (Int32.toNatClampNeg x4))), some (.int (σ 41 (Int32.toNatClampNeg x4)))], [.int x4, .int b], σ)) rfl ?_
    refine PW.callS (vs := [.int b, .int x4]) (rest := []) (ins_l hw_141 rfl) rfl (Or.inl rfl) rfl (Nat.le_of_ble_eq_true rfl) (Nat.le_of_ble_eq_true rfl) (PW.mono h ?_)
    rintro _ σ1 ⟨v1, rfl, h⟩
    show PW none 141 79 [some (.ref 39), some (.int a), some (.int b), some (.int x3), some (.int x4), some (.int (σ 40 (Int32.toNatClampNeg x4))), some (.int (σ 41 (Int32.toNatClampNeg x4)))] [.int v1] σ1 _
    refine PW.ifc (t := 172) (ins_l hw_141 rfl) rfl (fun hc2 => ?_) (fun hc2 => ?_)
    · replace h := (if_pos (c_eqT hc2)).mp h
      refine PW.runs hw_141 rfl 2 (q := (172, [some (.ref 39), some (.int a), some (.int b), some (.int x3), some (.int x4), some (.int (σ 40 (Int32.toNatClampNeg x4))), some (.int (σ 41 (Int32.toNatClampNeg x4)))], [], σ1)) (q' := (46, [some (.ref 39), some (.int a), some (.int b), some (.int x3), some (.int (x4 + 1)), some (.int (σ 40 (Int32.toNatClampNeg x4))), some (.int (σ 41 (Int32.toNatClampNeg x4)))], [], σ1)) rfl ?_
      exact h
    · replace h := (if_neg (c_eqF hc2)).mp h
      refine PW.runs hw_141 rfl 6 (q := (82, [some (.ref 39), some (.int a), some (.int b), some (.int x3), some (.int x4), some (.int (σ 40 (Int32.toNatClampNeg x4))), some (.int (σ 41 (Int32.toNatClampNeg x4)))], [], σ1)) (q' := (94, [some (.ref 39), some (.int a), some (.int b), some (.int x3), some (.int x4), some (.int (σ 40 (Int32.toNatClampNeg x4))), some (.int (σ 41 (Int32.toNatClampNeg x4)))], [.int (σ 41 (Int32.toNatClampNeg x4)), .ref 54, .int (σ 40 (Int32.toNatClampNeg x4)), .ref 54], σ1)) rfl ?_
      obtain ⟨hb2, h⟩ := h
      refine PW.iald (n := 8) (ins_l hw_141 rfl) rfl (idx_in hb2.1 hb2.2).1 ?_
      refine PW.runs hw_141 rfl 5 (q := (95, [some (.ref 39), some (.int a), some (.int b), some (.int x3), some (.int x4), some (.int (σ 40 (Int32.toNatClampNeg x4))), some (.int (σ 41 (Int32.toNatClampNeg x4)))], [.int (σ1 54 (Int32.toNatClampNeg (σ 41 (Int32.toNatClampNeg x4)))), .int (σ 40 (Int32.toNatClampNeg x4)), .ref 54], σ1)) (q' := (103, [some (.ref 39), some (.int a), some (.int b), some (.int x3), some (.int x4), some (.int (σ 40 (Int32.toNatClampNeg x4))), some (.int (σ 41 (Int32.toNatClampNeg x4)))], [.int (σ 40 (Int32.toNatClampNeg x4)), .ref 54, .int ((σ1 54 (Int32.toNatClampNeg (σ 41 (Int32.toNatClampNeg x4)))) + 1), .int (σ 40 (Int32.toNatClampNeg x4)), .ref 54], σ1)) rfl ?_
      obtain ⟨hb3, h⟩ := h
      refine PW.iald (n := 8) (ins_l hw_141 rfl) rfl (idx_in hb3.1 hb3.2).1 ?_
      refine PW.icm (t := 119) (ins_l hw_141 rfl) rfl (fun hc3 => ?_) (fun hc3 => ?_)
      · replace h := (if_pos (c_geT hc3)).mp h
        refine PW.runs hw_141 rfl 3 (q := (119, [some (.ref 39), some (.int a), some (.int b), some (.int x3), some (.int x4), some (.int (σ 40 (Int32.toNatClampNeg x4))), some (.int (σ 41 (Int32.toNatClampNeg x4)))], [.int (σ 40 (Int32.toNatClampNeg x4)), .ref 54], σ1)) (q' := (125, [some (.ref 39), some (.int a), some (.int b), some (.int x3), some (.int x4), some (.int (σ 40 (Int32.toNatClampNeg x4))), some (.int (σ 41 (Int32.toNatClampNeg x4)))], [.int (σ 40 (Int32.toNatClampNeg x4)), .ref 54, .int (σ 40 (Int32.toNatClampNeg x4)), .ref 54], σ1)) rfl ?_
        refine PW.iald (n := 8) (ins_l hw_141 rfl) rfl (idx_in hb3.1 hb3.2).1 ?_
        refine PW.iast (n := 8) (ins_l hw_141 rfl) rfl (idx_in hb3.1 hb3.2).1 ?_
        refine PW.runs hw_141 rfl 6 (q := (127, [some (.ref 39), some (.int a), some (.int b), some (.int x3), some (.int x4), some (.int (σ 40 (Int32.toNatClampNeg x4))), some (.int (σ 41 (Int32.toNatClampNeg x4)))], [], (s2 σ1 54 (Int32.toNatClampNeg (σ 40 (Int32.toNatClampNeg x4))) (σ1 54 (Int32.toNatClampNeg (σ 40 (Int32.toNatClampNeg x4))))))) (q' := (139, [some (.ref 39), some (.int a), some (.int b), some (.int x3), some (.int x4), some (.int (σ 40 (Int32.toNatClampNeg x4))), some (.int (σ 41 (Int32.toNatClampNeg x4)))], [.int (σ 40 (Int32.toNatClampNeg x4)), .ref 54, .int (σ 41 (Int32.toNatClampNeg x4)), .ref 54], (s2 σ1 54 (Int32.toNatClampNeg (σ 40 (Int32.toNatClampNeg x4))) (σ1 54 (Int32.toNatClampNeg (σ 40 (Int32.toNatClampNeg x4))))))) rfl ?_
        refine PW.iald (n := 8) (ins_l hw_141 rfl) rfl (idx_in hb3.1 hb3.2).1 ?_
        refine PW.runs hw_141 rfl 5 (q := (140, [some (.ref 39), some (.int a), some (.int b), some (.int x3), some (.int x4), some (.int (σ 40 (Int32.toNatClampNeg x4))), some (.int (σ 41 (Int32.toNatClampNeg x4)))], [.int ((s2 σ1 54 (Int32.toNatClampNeg (σ 40 (Int32.toNatClampNeg x4))) (σ1 54 (Int32.toNatClampNeg (σ 40 (Int32.toNatClampNeg x4))))) 54 (Int32.toNatClampNeg (σ 40 (Int32.toNatClampNeg x4)))), .int (σ 41 (Int32.toNatClampNeg x4)), .ref 54], (s2 σ1 54 (Int32.toNatClampNeg (σ 40 (Int32.toNatClampNeg x4))) (σ1 54 (Int32.toNatClampNeg (σ 40 (Int32.toNatClampNeg x4))))))) (q' := (148, [some (.ref 39), some (.int a), some (.int b), some (.int x3), some (.int x4), some (.int (σ 40 (Int32.toNatClampNeg x4))), some (.int (σ 41 (Int32.toNatClampNeg x4)))], [.int (σ 41 (Int32.toNatClampNeg x4)), .ref 54, .int (((s2 σ1 54 (Int32.toNatClampNeg (σ 40 (Int32.toNatClampNeg x4))) (σ1 54 (Int32.toNatClampNeg (σ 40 (Int32.toNatClampNeg x4))))) 54 (Int32.toNatClampNeg (σ 40 (Int32.toNatClampNeg x4)))) + 1), .int (σ 41 (Int32.toNatClampNeg x4)), .ref 54], (s2 σ1 54 (Int32.toNatClampNeg (σ 40 (Int32.toNatClampNeg x4))) (σ1 54 (Int32.toNatClampNeg (σ 40 (Int32.toNatClampNeg x4))))))) rfl ?_
        refine PW.iald (n := 8) (ins_l hw_141 rfl) rfl (idx_in hb2.1 hb2.2).1 ?_
        refine PW.icm (t := 164) (ins_l hw_141 rfl) rfl (fun hc4 => ?_) (fun hc4 => ?_)
        · replace h := (if_pos (c_geT hc4)).mp h
          refine PW.runs hw_141 rfl 3 (q := (164, [some (.ref 39), some (.int a), some (.int b), some (.int x3), some (.int x4), some (.int (σ 40 (Int32.toNatClampNeg x4))), some (.int (σ 41 (Int32.toNatClampNeg x4)))], [.int (σ 41 (Int32.toNatClampNeg x4)), .ref 54], (s2 σ1 54 (Int32.toNatClampNeg (σ 40 (Int32.toNatClampNeg x4))) (σ1 54 (Int32.toNatClampNeg (σ 40 (Int32.toNatClampNeg x4))))))) (q' := (170, [some (.ref 39), some (.int a), some (.int b), some (.int x3), some (.int x4), some (.int (σ 40 (Int32.toNatClampNeg x4))), some (.int (σ 41 (Int32.toNatClampNeg x4)))], [.int (σ 41 (Int32.toNatClampNeg x4)), .ref 54, .int (σ 41 (Int32.toNatClampNeg x4)), .ref 54], (s2 σ1 54 (Int32.toNatClampNeg (σ 40 (Int32.toNatClampNeg x4))) (σ1 54 (Int32.toNatClampNeg (σ 40 (Int32.toNatClampNeg x4))))))) rfl ?_
          refine PW.iald (n := 8) (ins_l hw_141 rfl) rfl (idx_in hb2.1 hb2.2).1 ?_
          refine PW.iast (n := 8) (ins_l hw_141 rfl) rfl (idx_in hb2.1 hb2.2).1 ?_
          refine PW.runs hw_141 rfl 2 (q := (172, [some (.ref 39), some (.int a), some (.int b), some (.int x3), some (.int x4), some (.int (σ 40 (Int32.toNatClampNeg x4))), some (.int (σ 41 (Int32.toNatClampNeg x4)))], [], (s2 (s2 σ1 54 (Int32.toNatClampNeg (σ 40 (Int32.toNatClampNeg x4))) (σ1 54 (Int32.toNatClampNeg (σ 40 (Int32.toNatClampNeg x4))))) 54 (Int32.toNatClampNeg (σ 41 (Int32.toNatClampNeg x4))) ((s2 σ1 54 (Int32.toNatClampNeg (σ 40 (Int32.toNatClampNeg x4))) (σ1 54 (Int32.toNatClampNeg (σ 40 (Int32.toNatClampNeg x4))))) 54 (Int32.toNatClampNeg (σ 41 (Int32.toNatClampNeg x4))))))) (q' := (46, [some (.ref 39), some (.int a), some (.int b), some (.int x3), some (.int (x4 + 1)), some (.int (σ 40 (Int32.toNatClampNeg x4))), some (.int (σ 41 (Int32.toNatClampNeg x4)))], [], (s2 (s2 σ1 54 (Int32.toNatClampNeg (σ 40 (Int32.toNatClampNeg x4))) (σ1 54 (Int32.toNatClampNeg (σ 40 (Int32.toNatClampNeg x4))))) 54 (Int32.toNatClampNeg (σ 41 (Int32.toNatClampNeg x4))) ((s2 σ1 54 (Int32.toNatClampNeg (σ 40 (Int32.toNatClampNeg x4))) (σ1 54 (Int32.toNatClampNeg (σ 40 (Int32.toNatClampNeg x4))))) 54 (Int32.toNatClampNeg (σ 41 (Int32.toNatClampNeg x4))))))) rfl ?_
          exact h
        · replace h := (if_neg (c_geF hc4)).mp h
          refine PW.runs hw_141 rfl 3 (q := (152, [some (.ref 39), some (.int a), some (.int b), some (.int x3), some (.int x4), some (.int (σ 40 (Int32.toNatClampNeg x4))), some (.int (σ 41 (Int32.toNatClampNeg x4)))], [.int (σ 41 (Int32.toNatClampNeg x4)), .ref 54], (s2 σ1 54 (Int32.toNatClampNeg (σ 40 (Int32.toNatClampNeg x4))) (σ1 54 (Int32.toNatClampNeg (σ 40 (Int32.toNatClampNeg x4))))))) (q' := (158, [some (.ref 39), some (.int a), some (.int b), some (.int x3), some (.int x4), some (.int (σ 40 (Int32.toNatClampNeg x4))), some (.int (σ 41 (Int32.toNatClampNeg x4)))], [.int (σ 40 (Int32.toNatClampNeg x4)), .ref 54, .int (σ 41 (Int32.toNatClampNeg x4)), .ref 54], (s2 σ1 54 (Int32.toNatClampNeg (σ 40 (Int32.toNatClampNeg x4))) (σ1 54 (Int32.toNatClampNeg (σ 40 (Int32.toNatClampNeg x4))))))) rfl ?_
          refine PW.iald (n := 8) (ins_l hw_141 rfl) rfl (idx_in hb3.1 hb3.2).1 ?_
          refine PW.runs hw_141 rfl 3 (q := (159, [some (.ref 39), some (.int a), some (.int b), some (.int x3), some (.int x4), some (.int (σ 40 (Int32.toNatClampNeg x4))), some (.int (σ 41 (Int32.toNatClampNeg x4)))], [.int ((s2 σ1 54 (Int32.toNatClampNeg (σ 40 (Int32.toNatClampNeg x4))) (σ1 54 (Int32.toNatClampNeg (σ 40 (Int32.toNatClampNeg x4))))) 54 (Int32.toNatClampNeg (σ 40 (Int32.toNatClampNeg x4)))), .int (σ 41 (Int32.toNatClampNeg x4)), .ref 54], (s2 σ1 54 (Int32.toNatClampNeg (σ 40 (Int32.toNatClampNeg x4))) (σ1 54 (Int32.toNatClampNeg (σ 40 (Int32.toNatClampNeg x4))))))) (q' := (171, [some (.ref 39), some (.int a), some (.int b), some (.int x3), some (.int x4), some (.int (σ 40 (Int32.toNatClampNeg x4))), some (.int (σ 41 (Int32.toNatClampNeg x4)))], [.int (((s2 σ1 54 (Int32.toNatClampNeg (σ 40 (Int32.toNatClampNeg x4))) (σ1 54 (Int32.toNatClampNeg (σ 40 (Int32.toNatClampNeg x4))))) 54 (Int32.toNatClampNeg (σ 40 (Int32.toNatClampNeg x4)))) + 1), .int (σ 41 (Int32.toNatClampNeg x4)), .ref 54], (s2 σ1 54 (Int32.toNatClampNeg (σ 40 (Int32.toNatClampNeg x4))) (σ1 54 (Int32.toNatClampNeg (σ 40 (Int32.toNatClampNeg x4))))))) rfl ?_
          refine PW.iast (n := 8) (ins_l hw_141 rfl) rfl (idx_in hb2.1 hb2.2).1 ?_
          refine PW.runs hw_141 rfl 2 (q := (172, [some (.ref 39), some (.int a), some (.int b), some (.int x3), some (.int x4), some (.int (σ 40 (Int32.toNatClampNeg x4))), some (.int (σ 41 (Int32.toNatClampNeg x4)))], [], (s2 (s2 σ1 54 (Int32.toNatClampNeg (σ 40 (Int32.toNatClampNeg x4))) (σ1 54 (Int32.toNatClampNeg (σ 40 (Int32.toNatClampNeg x4))))) 54 (Int32.toNatClampNeg (σ 41 (Int32.toNatClampNeg x4))) (((s2 σ1 54 (Int32.toNatClampNeg (σ 40 (Int32.toNatClampNeg x4))) (σ1 54 (Int32.toNatClampNeg (σ 40 (Int32.toNatClampNeg x4))))) 54 (Int32.toNatClampNeg (σ 40 (Int32.toNatClampNeg x4)))) + 1)))) (q' := (46, [some (.ref 39), some (.int a), some (.int b), some (.int x3), some (.int (x4 + 1)), some (.int (σ 40 (Int32.toNatClampNeg x4))), some (.int (σ 41 (Int32.toNatClampNeg x4)))], [], (s2 (s2 σ1 54 (Int32.toNatClampNeg (σ 40 (Int32.toNatClampNeg x4))) (σ1 54 (Int32.toNatClampNeg (σ 40 (Int32.toNatClampNeg x4))))) 54 (Int32.toNatClampNeg (σ 41 (Int32.toNatClampNeg x4))) (((s2 σ1 54 (Int32.toNatClampNeg (σ 40 (Int32.toNatClampNeg x4))) (σ1 54 (Int32.toNatClampNeg (σ 40 (Int32.toNatClampNeg x4))))) 54 (Int32.toNatClampNeg (σ 40 (Int32.toNatClampNeg x4)))) + 1)))) rfl ?_
          exact h
      · replace h := (if_neg (c_geF hc3)).mp h
        refine PW.runs hw_141 rfl 3 (q := (107, [some (.ref 39), some (.int a), some (.int b), some (.int x3), some (.int x4), some (.int (σ 40 (Int32.toNatClampNeg x4))), some (.int (σ 41 (Int32.toNatClampNeg x4)))], [.int (σ 40 (Int32.toNatClampNeg x4)), .ref 54], σ1)) (q' := (113, [some (.ref 39), some (.int a), some (.int b), some (.int x3), some (.int x4), some (.int (σ 40 (Int32.toNatClampNeg x4))), some (.int (σ 41 (Int32.toNatClampNeg x4)))], [.int (σ 41 (Int32.toNatClampNeg x4)), .ref 54, .int (σ 40 (Int32.toNatClampNeg x4)), .ref 54], σ1)) rfl ?_
        refine PW.iald (n := 8) (ins_l hw_141 rfl) rfl (idx_in hb2.1 hb2.2).1 ?_
        refine PW.runs hw_141 rfl 3 (q := (114, [some (.ref 39), some (.int a), some (.int b), some (.int x3), some (.int x4), some (.int (σ 40 (Int32.toNatClampNeg x4))), some (.int (σ 41 (Int32.toNatClampNeg x4)))], [.int (σ1 54 (Int32.toNatClampNeg (σ 41 (Int32.toNatClampNeg x4)))), .int (σ 40 (Int32.toNatClampNeg x4)), .ref 54], σ1)) (q' := (126, [some (.ref 39), some (.int a), some (.int b), some (.int x3), some (.int x4), some (.int (σ 40 (Int32.toNatClampNeg x4))), some (.int (σ 41 (Int32.toNatClampNeg x4)))], [.int ((σ1 54 (Int32.toNatClampNeg (σ 41 (Int32.toNatClampNeg x4)))) + 1), .int (σ 40 (Int32.toNatClampNeg x4)), .ref 54], σ1)) rfl ?_
        refine PW.iast (n := 8) (ins_l hw_141 rfl) rfl (idx_in hb3.1 hb3.2).1 ?_
        refine PW.runs hw_141 rfl 6 (q := (127, [some (.ref 39), some (.int a), some (.int b), some (.int x3), some (.int x4), some (.int (σ 40 (Int32.toNatClampNeg x4))), some (.int (σ 41 (Int32.toNatClampNeg x4)))], [], (s2 σ1 54 (Int32.toNatClampNeg (σ 40 (Int32.toNatClampNeg x4))) ((σ1 54 (Int32.toNatClampNeg (σ 41 (Int32.toNatClampNeg x4)))) + 1)))) (q' := (139, [some (.ref 39), some (.int a), some (.int b), some (.int x3), some (.int x4), some (.int (σ 40 (Int32.toNatClampNeg x4))), some (.int (σ 41 (Int32.toNatClampNeg x4)))], [.int (σ 40 (Int32.toNatClampNeg x4)), .ref 54, .int (σ 41 (Int32.toNatClampNeg x4)), .ref 54], (s2 σ1 54 (Int32.toNatClampNeg (σ 40 (Int32.toNatClampNeg x4))) ((σ1 54 (Int32.toNatClampNeg (σ 41 (Int32.toNatClampNeg x4)))) + 1)))) rfl ?_
        refine PW.iald (n := 8) (ins_l hw_141 rfl) rfl (idx_in hb3.1 hb3.2).1 ?_
        refine PW.runs hw_141 rfl 5 (q := (140, [some (.ref 39), some (.int a), some (.int b), some (.int x3), some (.int x4), some (.int (σ 40 (Int32.toNatClampNeg x4))), some (.int (σ 41 (Int32.toNatClampNeg x4)))], [.int ((s2 σ1 54 (Int32.toNatClampNeg (σ 40 (Int32.toNatClampNeg x4))) ((σ1 54 (Int32.toNatClampNeg (σ 41 (Int32.toNatClampNeg x4)))) + 1)) 54 (Int32.toNatClampNeg (σ 40 (Int32.toNatClampNeg x4)))), .int (σ 41 (Int32.toNatClampNeg x4)), .ref 54], (s2 σ1 54 (Int32.toNatClampNeg (σ 40 (Int32.toNatClampNeg x4))) ((σ1 54 (Int32.toNatClampNeg (σ 41 (Int32.toNatClampNeg x4)))) + 1)))) (q' := (148, [some (.ref 39), some (.int a), some (.int b), some (.int x3), some (.int x4), some (.int (σ 40 (Int32.toNatClampNeg x4))), some (.int (σ 41 (Int32.toNatClampNeg x4)))], [.int (σ 41 (Int32.toNatClampNeg x4)), .ref 54, .int (((s2 σ1 54 (Int32.toNatClampNeg (σ 40 (Int32.toNatClampNeg x4))) ((σ1 54 (Int32.toNatClampNeg (σ 41 (Int32.toNatClampNeg x4)))) + 1)) 54 (Int32.toNatClampNeg (σ 40 (Int32.toNatClampNeg x4)))) + 1), .int (σ 41 (Int32.toNatClampNeg x4)), .ref 54], (s2 σ1 54 (Int32.toNatClampNeg (σ 40 (Int32.toNatClampNeg x4))) ((σ1 54 (Int32.toNatClampNeg (σ 41 (Int32.toNatClampNeg x4)))) + 1)))) rfl ?_
        refine PW.iald (n := 8) (ins_l hw_141 rfl) rfl (idx_in hb2.1 hb2.2).1 ?_
        refine PW.icm (t := 164) (ins_l hw_141 rfl) rfl (fun hc4 => ?_) (fun hc4 => ?_)
        · replace h := (if_pos (c_geT hc4)).mp h
          refine PW.runs hw_141 rfl 3 (q := (164, [some (.ref 39), some (.int a), some (.int b), some (.int x3), some (.int x4), some (.int (σ 40 (Int32.toNatClampNeg x4))), some (.int (σ 41 (Int32.toNatClampNeg x4)))], [.int (σ 41 (Int32.toNatClampNeg x4)), .ref 54], (s2 σ1 54 (Int32.toNatClampNeg (σ 40 (Int32.toNatClampNeg x4))) ((σ1 54 (Int32.toNatClampNeg (σ 41 (Int32.toNatClampNeg x4)))) + 1)))) (q' := (170, [some (.ref 39), some (.int a), some (.int b), some (.int x3), some (.int x4), some (.int (σ 40 (Int32.toNatClampNeg x4))), some (.int (σ 41 (Int32.toNatClampNeg x4)))], [.int (σ 41 (Int32.toNatClampNeg x4)), .ref 54, .int (σ 41 (Int32.toNatClampNeg x4)), .ref 54], (s2 σ1 54 (Int32.toNatClampNeg (σ 40 (Int32.toNatClampNeg x4))) ((σ1 54 (Int32.toNatClampNeg (σ 41 (Int32.toNatClampNeg x4)))) + 1)))) rfl ?_
          refine PW.iald (n := 8) (ins_l hw_141 rfl) rfl (idx_in hb2.1 hb2.2).1 ?_
          refine PW.iast (n := 8) (ins_l hw_141 rfl) rfl (idx_in hb2.1 hb2.2).1 ?_
          refine PW.runs hw_141 rfl 2 (q := (172, [some (.ref 39), some (.int a), some (.int b), some (.int x3), some (.int x4), some (.int (σ 40 (Int32.toNatClampNeg x4))), some (.int (σ 41 (Int32.toNatClampNeg x4)))], [], (s2 (s2 σ1 54 (Int32.toNatClampNeg (σ 40 (Int32.toNatClampNeg x4))) ((σ1 54 (Int32.toNatClampNeg (σ 41 (Int32.toNatClampNeg x4)))) + 1)) 54 (Int32.toNatClampNeg (σ 41 (Int32.toNatClampNeg x4))) ((s2 σ1 54 (Int32.toNatClampNeg (σ 40 (Int32.toNatClampNeg x4))) ((σ1 54 (Int32.toNatClampNeg (σ 41 (Int32.toNatClampNeg x4)))) + 1)) 54 (Int32.toNatClampNeg (σ 41 (Int32.toNatClampNeg x4))))))) (q' := (46, [some (.ref 39), some (.int a), some (.int b), some (.int x3), some (.int (x4 + 1)), some (.int (σ 40 (Int32.toNatClampNeg x4))), some (.int (σ 41 (Int32.toNatClampNeg x4)))], [], (s2 (s2 σ1 54 (Int32.toNatClampNeg (σ 40 (Int32.toNatClampNeg x4))) ((σ1 54 (Int32.toNatClampNeg (σ 41 (Int32.toNatClampNeg x4)))) + 1)) 54 (Int32.toNatClampNeg (σ 41 (Int32.toNatClampNeg x4))) ((s2 σ1 54 (Int32.toNatClampNeg (σ 40 (Int32.toNatClampNeg x4))) ((σ1 54 (Int32.toNatClampNeg (σ 41 (Int32.toNatClampNeg x4)))) + 1)) 54 (Int32.toNatClampNeg (σ 41 (Int32.toNatClampNeg x4))))))) rfl ?_
          exact h
        · replace h := (if_neg (c_geF hc4)).mp h
          refine PW.runs hw_141 rfl 3 (q := (152, [some (.ref 39), some (.int a), some (.int b), some (.int x3), some (.int x4), some (.int (σ 40 (Int32.toNatClampNeg x4))), some (.int (σ 41 (Int32.toNatClampNeg x4)))], [.int (σ 41 (Int32.toNatClampNeg x4)), .ref 54], (s2 σ1 54 (Int32.toNatClampNeg (σ 40 (Int32.toNatClampNeg x4))) ((σ1 54 (Int32.toNatClampNeg (σ 41 (Int32.toNatClampNeg x4)))) + 1)))) (q' := (158, [some (.ref 39), some (.int a), some (.int b), some (.int x3), some (.int x4), some (.int (σ 40 (Int32.toNatClampNeg x4))), some (.int (σ 41 (Int32.toNatClampNeg x4)))], [.int (σ 40 (Int32.toNatClampNeg x4)), .ref 54, .int (σ 41 (Int32.toNatClampNeg x4)), .ref 54], (s2 σ1 54 (Int32.toNatClampNeg (σ 40 (Int32.toNatClampNeg x4))) ((σ1 54 (Int32.toNatClampNeg (σ 41 (Int32.toNatClampNeg x4)))) + 1)))) rfl ?_
          refine PW.iald (n := 8) (ins_l hw_141 rfl) rfl (idx_in hb3.1 hb3.2).1 ?_
          refine PW.runs hw_141 rfl 3 (q := (159, [some (.ref 39), some (.int a), some (.int b), some (.int x3), some (.int x4), some (.int (σ 40 (Int32.toNatClampNeg x4))), some (.int (σ 41 (Int32.toNatClampNeg x4)))], [.int ((s2 σ1 54 (Int32.toNatClampNeg (σ 40 (Int32.toNatClampNeg x4))) ((σ1 54 (Int32.toNatClampNeg (σ 41 (Int32.toNatClampNeg x4)))) + 1)) 54 (Int32.toNatClampNeg (σ 40 (Int32.toNatClampNeg x4)))), .int (σ 41 (Int32.toNatClampNeg x4)), .ref 54], (s2 σ1 54 (Int32.toNatClampNeg (σ 40 (Int32.toNatClampNeg x4))) ((σ1 54 (Int32.toNatClampNeg (σ 41 (Int32.toNatClampNeg x4)))) + 1)))) (q' := (171, [some (.ref 39), some (.int a), some (.int b), some (.int x3), some (.int x4), some (.int (σ 40 (Int32.toNatClampNeg x4))), some (.int (σ 41 (Int32.toNatClampNeg x4)))], [.int (((s2 σ1 54 (Int32.toNatClampNeg (σ 40 (Int32.toNatClampNeg x4))) ((σ1 54 (Int32.toNatClampNeg (σ 41 (Int32.toNatClampNeg x4)))) + 1)) 54 (Int32.toNatClampNeg (σ 40 (Int32.toNatClampNeg x4)))) + 1), .int (σ 41 (Int32.toNatClampNeg x4)), .ref 54], (s2 σ1 54 (Int32.toNatClampNeg (σ 40 (Int32.toNatClampNeg x4))) ((σ1 54 (Int32.toNatClampNeg (σ 41 (Int32.toNatClampNeg x4)))) + 1)))) rfl ?_
          refine PW.iast (n := 8) (ins_l hw_141 rfl) rfl (idx_in hb2.1 hb2.2).1 ?_
          refine PW.runs hw_141 rfl 2 (q := (172, [some (.ref 39), some (.int a), some (.int b), some (.int x3), some (.int x4), some (.int (σ 40 (Int32.toNatClampNeg x4))), some (.int (σ 41 (Int32.toNatClampNeg x4)))], [], (s2 (s2 σ1 54 (Int32.toNatClampNeg (σ 40 (Int32.toNatClampNeg x4))) ((σ1 54 (Int32.toNatClampNeg (σ 41 (Int32.toNatClampNeg x4)))) + 1)) 54 (Int32.toNatClampNeg (σ 41 (Int32.toNatClampNeg x4))) (((s2 σ1 54 (Int32.toNatClampNeg (σ 40 (Int32.toNatClampNeg x4))) ((σ1 54 (Int32.toNatClampNeg (σ 41 (Int32.toNatClampNeg x4)))) + 1)) 54 (Int32.toNatClampNeg (σ 40 (Int32.toNatClampNeg x4)))) + 1)))) (q' := (46, [some (.ref 39), some (.int a), some (.int b), some (.int x3), some (.int (x4 + 1)), some (.int (σ 40 (Int32.toNatClampNeg x4))), some (.int (σ 41 (Int32.toNatClampNeg x4)))], [], (s2 (s2 σ1 54 (Int32.toNatClampNeg (σ 40 (Int32.toNatClampNeg x4))) ((σ1 54 (Int32.toNatClampNeg (σ 41 (Int32.toNatClampNeg x4)))) + 1)) 54 (Int32.toNatClampNeg (σ 41 (Int32.toNatClampNeg x4))) (((s2 σ1 54 (Int32.toNatClampNeg (σ 40 (Int32.toNatClampNeg x4))) ((σ1 54 (Int32.toNatClampNeg (σ 41 (Int32.toNatClampNeg x4)))) + 1)) 54 (Int32.toNatClampNeg (σ 40 (Int32.toNatClampNeg x4)))) + 1)))) rfl ?_
          exact h
/-! MapDutyModel.findWay.(III)I -/
set_option maxRecDepth 20000 in
theorem w_142 {a : Int32} {b : Int32} {c : Int32} {σ : St} {K : Int32 → St → Prop} (h : CV 141 [.ref 39, .int b, .int c] σ (fun σ1 => ((0 ≤ a.toInt ∧ a.toInt < 8) ∧ (if (σ1 54 (Int32.toNatClampNeg a)) < 1000000 then PI 142 25 [some (.ref 39), some (.int a), some (.int b), some (.int c), some (.int a), some (.int 0), none] [] σ1 K else K (-1) σ1)))) : CI 142 [.ref 39, .int a, .int b, .int c] σ K := by
  show PW none 142 0 [some (.ref 39), some (.int a), some (.int b), some (.int c), none, none, none] [] σ _
  refine PW.runs hw_142 rfl 3 (q := (0, [some (.ref 39), some (.int a), some (.int b), some (.int c), none, none, none], [], σ)) (q' := (3, [some (.ref 39), some (.int a), some (.int b), some (.int c), none, none, none], [.int c, .int b, .ref 39], σ)) rfl ?_
  refine PW.callV (b := 39) (vs := [.int b, .int c]) (rest := []) (ins_l hw_142 rfl) rfl rfl rfl (Nat.le_of_ble_eq_true rfl) (Nat.le_of_ble_eq_true rfl) (PW.mono h ?_)
  rintro _ σ1 ⟨rfl, h⟩
  show PW none 142 6 [some (.ref 39), some (.int a), some (.int b), some (.int c), none, none, none] [] σ1 _
  refine PW.runs hw_142 rfl 3 (q := (6, [some (.ref 39), some (.int a), some (.int b), some (.int c), none, none, none], [], σ1)) (q' := (11, [some (.ref 39), some (.int a), some (.int b), some (.int c), none, none, none], [.int a, .ref 54], σ1)) rfl ?_
  obtain ⟨hb1, h⟩ := h
  refine PW.iald (n := 8) (ins_l hw_142 rfl) rfl (idx_in hb1.1 hb1.2).1 ?_
  refine PW.runs hw_142 rfl 1 (q := (12, [some (.ref 39), some (.int a), some (.int b), some (.int c), none, none, none], [.int (σ1 54 (Int32.toNatClampNeg a))], σ1)) (q' := (14, [some (.ref 39), some (.int a), some (.int b), some (.int c), none, none, none], [.int 1000000, .int (σ1 54 (Int32.toNatClampNeg a))], σ1)) rfl ?_
  refine PW.icm (t := 19) (ins_l hw_142 rfl) rfl (fun hc1 => ?_) (fun hc1 => ?_)
  · replace h := (if_pos (c_ltT hc1)).mp h
    refine PW.runs hw_142 rfl 4 (q := (19, [some (.ref 39), some (.int a), some (.int b), some (.int c), none, none, none], [], σ1)) (q' := (25, [some (.ref 39), some (.int a), some (.int b), some (.int c), some (.int a), some (.int 0), none], [], σ1)) rfl ?_
    exact h
  · replace h := (if_neg (c_ltF hc1)).mp h
    refine PW.runs hw_142 rfl 1 (q := (17, [some (.ref 39), some (.int a), some (.int b), some (.int c), none, none, none], [], σ1)) (q' := (18, [some (.ref 39), some (.int a), some (.int b), some (.int c), none, none, none], [.int (-1)], σ1)) rfl ?_
    exact PW.iret (ins_l hw_142 rfl) (Or.inl rfl) ⟨_, rfl, h⟩
set_option maxRecDepth 20000 in
theorem w_142_25 {a : Int32} {b : Int32} {c : Int32} {x4 : Int32} {x5 : Int32} {o6 : Option Value} {σ : St} {K : Int32 → St → Prop} (h : (if x4 = b then K x5 σ else PI 142 34 [some (.ref 39), some (.int a), some (.int b), some (.int c), some (.int x4), some (.int x5), some (.int 0)] [] σ K)) : PI 142 25 [some (.ref 39), some (.int a), some (.int b), some (.int c), some (.int x4), some (.int x5), o6] [] σ K := by
  show PW none 142 25 [some (.ref 39), some (.int a), some (.int b), some (.int c), some (.int x4), some (.int x5), o6] [] σ _
  refine PW.runs hw_142 rfl 2 (q := (25, [some (.ref 39), some (.int a), some (.int b), some (.int c), some (.int x4), some (.int x5), o6], [], σ)) (q' := (28, [some (.ref 39), some (.int a), some (.int b), some (.int c), some (.int x4), some (.int x5), o6], [.int b, .int x4], σ)) rfl ?_
  refine PW.icm (t := 110) (ins_l hw_142 rfl) rfl (fun hc1 => ?_) (fun hc1 => ?_)
  · replace h := (if_pos (c_eqT hc1)).mp h
    refine PW.runs hw_142 rfl 1 (q := (110, [some (.ref 39), some (.int a), some (.int b), some (.int c), some (.int x4), some (.int x5), o6], [], σ)) (q' := (112, [some (.ref 39), some (.int a), some (.int b), some (.int c), some (.int x4), some (.int x5), o6], [.int x5], σ)) rfl ?_
    exact PW.iret (ins_l hw_142 rfl) (Or.inl rfl) ⟨_, rfl, h⟩
  · replace h := (if_neg (c_eqF hc1)).mp h
    refine PW.runs hw_142 rfl 2 (q := (31, [some (.ref 39), some (.int a), some (.int b), some (.int c), some (.int x4), some (.int x5), o6], [], σ)) (q' := (34, [some (.ref 39), some (.int a), some (.int b), some (.int c), some (.int x4), some (.int x5), some (.int 0)], [], σ)) rfl ?_
    exact h
set_option maxRecDepth 20000 in
theorem w_142_34 {a : Int32} {b : Int32} {c : Int32} {x4 : Int32} {x5 : Int32} {x6 : Int32} {σ : St} {K : Int32 → St → Prop} (h : CI 110 [.int c, .int x6] σ (fun v1 σ1 => (if v1 = 0 then PI 142 34 [some (.ref 39), some (.int a), some (.int b), some (.int c), some (.int x4), some (.int x5), some (.int (x6 + 1))] [] σ1 K else CI 138 [.ref 39, .int x6, .int x4] σ1 (fun v2 σ2 => (if v2 < 0 then PI 142 34 [some (.ref 39), some (.int a), some (.int b), some (.int c), some (.int x4), some (.int x5), some (.int (x6 + 1))] [] σ2 K else CI 138 [.ref 39, .int x6, .int x4] σ2 (fun v3 σ3 => ((0 ≤ v3.toInt ∧ v3.toInt < 8) ∧ ((0 ≤ x4.toInt ∧ x4.toInt < 8) ∧ (if (σ3 54 (Int32.toNatClampNeg v3)) = ((σ3 54 (Int32.toNatClampNeg x4)) - 1) then ((0 ≤ x5.toInt ∧ x5.toInt < 8) ∧ CI 138 [.ref 39, .int x6, .int x4] (s2 σ3 55 (Int32.toNatClampNeg x5) x6) (fun v4 σ4 => PI 142 25 [some (.ref 39), some (.int a), some (.int b), some (.int c), some (.int v4), some (.int (x5 + 1)), some (.int x6)] [] σ4 K)) else PI 142 34 [some (.ref 39), some (.int a), some (.int b), some (.int c), some (.int x4), some (.int x5), some (.int (x6 + 1))] [] σ3 K))))))))) : PI 142 34 [some (.ref 39), some (.int a), some (.int b), some (.int c), some (.int x4), some (.int x5), some (.int x6)] [] σ K := by
  show PW none 142 34 [some (.ref 39), some (.int a), some (.int b), some (.int c), some (.int x4), some (.int x5), some (.int x6)] [] σ _
  refine PW.runs hw_142 rfl 2 (q := (34, [some (.ref 39), some (.int a), some (.int b), some (.int c), some (.int x4), some (.int x5), some (.int x6)], [], σ)) (q' := (37, [some (.ref 39), some (.int a), some (.int b), some (.int c), some (.int x4), some (.int x5), some (.int x6)], [.int x6, .int c], σ)) rfl ?_
  refine PW.callS (vs := [.int c, .int x6]) (rest := []) (ins_l hw_142 rfl) rfl (Or.inl rfl) rfl (Nat.le_of_ble_eq_true rfl) (Nat.le_of_ble_eq_true rfl) (PW.mono h ?_)
  rintro _ σ1 ⟨v1, rfl, h⟩
  show PW none 142 40 [some (.ref 39), some (.int a), some (.int b), some (.int c), some (.int x4), some (.int x5), some (.int x6)] [.int v1] σ1 _
  refine PW.ifc (t := 79) (ins_l hw_142 rfl) rfl (fun hc1 => ?_) (fun hc1 => ?_)
  · replace h := (if_pos (c_eqT hc1)).mp h
    refine PW.runs hw_142 rfl 2 (q := (79, [some (.ref 39), some (.int a), some (.int b), some (.int c), some (.int x4), some (.int x5), some (.int x6)], [], σ1)) (q' := (34, [some (.ref 39), some (.int a), some (.int b), some (.int c), some (.int x4), some (.int x5), some (.int (x6 + 1))], [], σ1)) rfl ?_
    exact h
  · replace h := (if_neg (c_eqF hc1)).mp h
    refine PW.runs hw_142 rfl 3 (q := (43, [some (.ref 39), some (.int a), some (.int b), some (.int c), some (.int x4), some (.int x5), some (.int x6)], [], σ1)) (q' := (48, [some (.ref 39), some (.int a), some (.int b), some (.int c), some (.int x4), some (.int x5), some (.int x6)], [.int x4, .int x6, .ref 39], σ1)) rfl ?_
    refine PW.callV (b := 39) (vs := [.int x6, .int x4]) (rest := []) (ins_l hw_142 rfl) rfl rfl rfl (Nat.le_of_ble_eq_true rfl) (Nat.le_of_ble_eq_true rfl) (PW.mono h ?_)
    rintro _ σ2 ⟨v2, rfl, h⟩
    show PW none 142 51 [some (.ref 39), some (.int a), some (.int b), some (.int c), some (.int x4), some (.int x5), some (.int x6)] [.int v2] σ2 _
    refine PW.ifc (t := 79) (ins_l hw_142 rfl) rfl (fun hc2 => ?_) (fun hc2 => ?_)
    · replace h := (if_pos (c_ltT hc2)).mp h
      refine PW.runs hw_142 rfl 2 (q := (79, [some (.ref 39), some (.int a), some (.int b), some (.int c), some (.int x4), some (.int x5), some (.int x6)], [], σ2)) (q' := (34, [some (.ref 39), some (.int a), some (.int b), some (.int c), some (.int x4), some (.int x5), some (.int (x6 + 1))], [], σ2)) rfl ?_
      exact h
    · replace h := (if_neg (c_ltF hc2)).mp h
      refine PW.runs hw_142 rfl 5 (q := (54, [some (.ref 39), some (.int a), some (.int b), some (.int c), some (.int x4), some (.int x5), some (.int x6)], [], σ2)) (q' := (63, [some (.ref 39), some (.int a), some (.int b), some (.int c), some (.int x4), some (.int x5), some (.int x6)], [.int x4, .int x6, .ref 39, .ref 54], σ2)) rfl ?_
      refine PW.callV (b := 39) (vs := [.int x6, .int x4]) (rest := [.ref 54]) (ins_l hw_142 rfl) rfl rfl rfl (Nat.le_of_ble_eq_true rfl) (Nat.le_of_ble_eq_true rfl) (PW.mono h ?_)
      rintro _ σ3 ⟨v3, rfl, h⟩
      show PW none 142 66 [some (.ref 39), some (.int a), some (.int b), some (.int c), some (.int x4), some (.int x5), some (.int x6)] [.int v3, .ref 54] σ3 _
      obtain ⟨hb1, h⟩ := h
      refine PW.iald (n := 8) (ins_l hw_142 rfl) rfl (idx_in hb1.1 hb1.2).1 ?_
      refine PW.runs hw_142 rfl 3 (q := (67, [some (.ref 39), some (.int a), some (.int b), some (.int c), some (.int x4), some (.int x5), some (.int x6)], [.int (σ3 54 (Int32.toNatClampNeg v3))], σ3)) (q' := (73, [some (.ref 39), some (.int a), some (.int b), some (.int c), some (.int x4), some (.int x5), some (.int x6)], [.int x4, .ref 54, .int (σ3 54 (Int32.toNatClampNeg v3))], σ3)) rfl ?_
      obtain ⟨hb2, h⟩ := h
      refine PW.iald (n := 8) (ins_l hw_142 rfl) rfl (idx_in hb2.1 hb2.2).1 ?_
      refine PW.runs hw_142 rfl 2 (q := (74, [some (.ref 39), some (.int a), some (.int b), some (.int c), some (.int x4), some (.int x5), some (.int x6)], [.int (σ3 54 (Int32.toNatClampNeg x4)), .int (σ3 54 (Int32.toNatClampNeg v3))], σ3)) (q' := (76, [some (.ref 39), some (.int a), some (.int b), some (.int c), some (.int x4), some (.int x5), some (.int x6)], [.int ((σ3 54 (Int32.toNatClampNeg x4)) - 1), .int (σ3 54 (Int32.toNatClampNeg v3))], σ3)) rfl ?_
      refine PW.icm (t := 85) (ins_l hw_142 rfl) rfl (fun hc3 => ?_) (fun hc3 => ?_)
      · replace h := (if_pos (c_eqT hc3)).mp h
        refine PW.runs hw_142 rfl 4 (q := (85, [some (.ref 39), some (.int a), some (.int b), some (.int c), some (.int x4), some (.int x5), some (.int x6)], [], σ3)) (q' := (93, [some (.ref 39), some (.int a), some (.int b), some (.int c), some (.int x4), some (.int x5), some (.int x6)], [.int x6, .int x5, .ref 55], σ3)) rfl ?_
        obtain ⟨hb3, h⟩ := h
        refine PW.iast (n := 8) (ins_l hw_142 rfl) rfl (idx_in hb3.1 hb3.2).1 ?_
        refine PW.runs hw_142 rfl 4 (q := (94, [some (.ref 39), some (.int a), some (.int b), some (.int c), some (.int x4), some (.int x5), some (.int x6)], [], (s2 σ3 55 (Int32.toNatClampNeg x5) x6))) (q' := (102, [some (.ref 39), some (.int a), some (.int b), some (.int c), some (.int x4), some (.int (x5 + 1)), some (.int x6)], [.int x4, .int x6, .ref 39], (s2 σ3 55 (Int32.toNatClampNeg x5) x6))) rfl ?_
        refine PW.callV (b := 39) (vs := [.int x6, .int x4]) (rest := []) (ins_l hw_142 rfl) rfl rfl rfl (Nat.le_of_ble_eq_true rfl) (Nat.le_of_ble_eq_true rfl) (PW.mono h ?_)
        rintro _ σ4 ⟨v4, rfl, h⟩
        show PW none 142 105 [some (.ref 39), some (.int a), some (.int b), some (.int c), some (.int x4), some (.int (x5 + 1)), some (.int x6)] [.int v4] σ4 _
        refine PW.runs hw_142 rfl 2 (q := (105, [some (.ref 39), some (.int a), some (.int b), some (.int c), some (.int x4), some (.int (x5 + 1)), some (.int x6)], [.int v4], σ4)) (q' := (25, [some (.ref 39), some (.int a), some (.int b), some (.int c), some (.int v4), some (.int (x5 + 1)), some (.int x6)], [], σ4)) rfl ?_
        exact h
      · replace h := (if_neg (c_eqF hc3)).mp h
        refine PW.runs hw_142 rfl 2 (q := (79, [some (.ref 39), some (.int a), some (.int b), some (.int c), some (.int x4), some (.int x5), some (.int x6)], [], σ3)) (q' := (34, [some (.ref 39), some (.int a), some (.int b), some (.int c), some (.int x4), some (.int x5), some (.int (x6 + 1))], [], σ3)) rfl ?_
        exact h
