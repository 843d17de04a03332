/-! the reference's reader -/
theorem hw_118 : pins.getD 118 [] = pi_118 := rfl
/-! MapDutyModel.here.()I -/
set_option maxRecDepth 20000 in
theorem w_118  {σ : St} {K : Int32 → St → Prop} (h : (if (σ 39 14) ≤ (σ 39 16) then K (-1) σ else ((0 ≤ (σ 39 16).toInt ∧ (σ 39 16).toInt < 240) ∧ (if (σ 47 (Int32.toNatClampNeg (σ 39 16))) = 32 then PI 118 0 [some (.ref 39)] [] (s2 σ 39 16 ((σ 39 16) + 1)) K else K (σ 47 (Int32.toNatClampNeg (σ 39 16))) σ)))) : PI 118 0 [some (.ref 39)] [] σ K := by
  show PW none 118 0 [some (.ref 39)] [] σ _
  refine PW.runs hw_118 rfl 4 (q := (0, [some (.ref 39)], [], σ)) (q' := (8, [some (.ref 39)], [.int (σ 39 14), .int (σ 39 16)], σ)) rfl ?_
  refine PW.icm (t := 38) (ins_l hw_118 rfl) rfl (fun hc1 => ?_) (fun hc1 => ?_)
  · replace h := (if_pos (c_geT hc1)).mp h
    refine PW.runs hw_118 rfl 4 (q := (38, [some (.ref 39)], [], σ)) (q' := (46, [some (.ref 39)], [.int (σ 39 14), .int (σ 39 16)], σ)) rfl ?_
    refine PW.icmT (t := 61) (ins_l hw_118 rfl) rfl hc1 ?_
    refine PW.runs hw_118 rfl 1 (q := (61, [some (.ref 39)], [], σ)) (q' := (62, [some (.ref 39)], [.int (-1)], σ)) rfl ?_
    exact PW.iret (ins_l hw_118 rfl) (Or.inl rfl) ⟨_, rfl, h⟩
  · replace h := (if_neg (c_geF hc1)).mp h
    refine PW.runs hw_118 rfl 4 (q := (11, [some (.ref 39)], [], σ)) (q' := (19, [some (.ref 39)], [.int (σ 39 16), .ref 47], σ)) rfl ?_
    obtain ⟨hb1, h⟩ := h
    refine PW.iald (n := 240) (ins_l hw_118 rfl) rfl (idx_in hb1.1 hb1.2).1 ?_
    refine PW.runs hw_118 rfl 1 (q := (20, [some (.ref 39)], [.int (σ 47 (Int32.toNatClampNeg (σ 39 16)))], σ)) (q' := (22, [some (.ref 39)], [.int 32, .int (σ 47 (Int32.toNatClampNeg (σ 39 16)))], σ)) rfl ?_
    refine PW.icm (t := 38) (ins_l hw_118 rfl) rfl (fun hc2 => ?_) (fun hc2 => ?_)
    · replace h := (if_neg (c_neT hc2)).mp h
      refine PW.runs hw_118 rfl 4 (q := (38, [some (.ref 39)], [], σ)) (q' := (46, [some (.ref 39)], [.int (σ 39 14), .int (σ 39 16)], σ)) rfl ?_
      refine PW.icmF (t := 61) (ins_l hw_118 rfl) rfl hc1 ?_
      refine PW.runs hw_118 rfl 4 (q := (49, [some (.ref 39)], [], σ)) (q' := (57, [some (.ref 39)], [.int (σ 39 16), .ref 47], σ)) rfl ?_
      refine PW.iald (n := 240) (ins_l hw_118 rfl) rfl (idx_in hb1.1 hb1.2).1 ?_
      refine PW.runs hw_118 rfl 1 (q := (58, [some (.ref 39)], [.int (σ 47 (Int32.toNatClampNeg (σ 39 16)))], σ)) (q' := (62, [some (.ref 39)], [.int (σ 47 (Int32.toNatClampNeg (σ 39 16)))], σ)) rfl ?_
      exact PW.iret (ins_l hw_118 rfl) (Or.inl rfl) ⟨_, rfl, h⟩
    · replace h := (if_pos (c_neF hc2)).mp h
      refine PW.runs hw_118 rfl 7 (q := (25, [some (.ref 39)], [], σ)) (q' := (0, [some (.ref 39)], [], (s2 σ 39 16 ((σ 39 16) + 1)))) rfl ?_
      exact h
theorem hw_119 : pins.getD 119 [] = pi_119 := rfl
/-! MapDutyModel.fails.(II)I -/
set_option maxRecDepth 20000 in
theorem w_119 {a : Int32} {b : Int32} {σ : St} {K : Int32 → St → Prop} (h : K a (s2 σ 39 15 b)) : CI 119 [.ref 39, .int a, .int b] σ K := by
  show PW none 119 0 [some (.ref 39), some (.int a), some (.int b)] [] σ _
  refine PW.runs hw_119 rfl 4 (q := (0, [some (.ref 39), some (.int a), some (.int b)], [], σ)) (q' := (6, [some (.ref 39), some (.int a), some (.int b)], [.int a], (s2 σ 39 15 b))) rfl ?_
  exact PW.iret (ins_l hw_119 rfl) (Or.inl rfl) ⟨_, rfl, h⟩
theorem hw_120 : pins.getD 120 [] = pi_120 := rfl
/-! MapDutyModel.takeNumber.(II)I -/
set_option maxRecDepth 20000 in
theorem w_120 {a : Int32} {b : Int32} {σ : St} {K : Int32 → St → Prop} (h : CI 118 [.ref 39] σ (fun v1 σ1 => CI 109 [.long (Int32.toInt64 v1), .long 48, .long 57] σ1 (fun v2 σ2 => (if v2 = 0 then CI 119 [.ref 39, .int 1, .int (σ2 39 16)] σ2 (fun v3 σ3 => K v3 σ3) else PI 120 42 [some (.ref 39), some (.int a), some (.int b), some (.int v1)] [] (s2 (s2 σ2 39 18 (σ2 39 16)) 39 17 0) K)))) : CI 120 [.ref 39, .int a, .int b] σ K := by
  show PW none 120 0 [some (.ref 39), some (.int a), some (.int b), none] [] σ _
  refine PW.runs hw_120 rfl 1 (q := (0, [some (.ref 39), some (.int a), some (.int b), none], [], σ)) (q' := (1, [some (.ref 39), some (.int a), some (.int b), none], [.ref 39], σ)) rfl ?_
  refine PW.callV (b := 39) (vs := []) (rest := []) (ins_l hw_120 rfl) rfl rfl rfl (Nat.le_of_ble_eq_true rfl) (Nat.le_of_ble_eq_true rfl) (PW.mono h ?_)
  rintro _ σ1 ⟨v1, rfl, h⟩
  show PW none 120 4 [some (.ref 39), some (.int a), some (.int b), none] [.int v1] σ1 _
  refine PW.runs hw_120 rfl 5 (q := (4, [some (.ref 39), some (.int a), some (.int b), none], [.int v1], σ1)) (q' := (13, [some (.ref 39), some (.int a), some (.int b), some (.int v1)], [.long 57, .long 48, .long (Int32.toInt64 v1)], σ1)) rfl ?_
  refine PW.callS (vs := [.long (Int32.toInt64 v1), .long 48, .long 57]) (rest := []) (ins_l hw_120 rfl) rfl (Or.inl rfl) rfl (Nat.le_of_ble_eq_true rfl) (Nat.le_of_ble_eq_true rfl) (PW.mono h ?_)
  rintro _ σ2 ⟨v2, rfl, h⟩
  show PW none 120 16 [some (.ref 39), some (.int a), some (.int b), some (.int v1)] [.int v2] σ2 _
  refine PW.ifc (t := 29) (ins_l hw_120 rfl) rfl (fun hc1 => ?_) (fun hc1 => ?_)
  · replace h := (if_neg (c_neT hc1)).mp h
    refine PW.runs hw_120 rfl 7 (q := (29, [some (.ref 39), some (.int a), some (.int b), some (.int v1)], [], σ2)) (q' := (42, [some (.ref 39), some (.int a), some (.int b), some (.int v1)], [], (s2 (s2 σ2 39 18 (σ2 39 16)) 39 17 0))) rfl ?_
    exact h
  · replace h := (if_pos (c_neF hc1)).mp h
    refine PW.runs hw_120 rfl 4 (q := (19, [some (.ref 39), some (.int a), some (.int b), some (.int v1)], [], σ2)) (q' := (25, [some (.ref 39), some (.int a), some (.int b), some (.int v1)], [.int (σ2 39 16), .int 1, .ref 39], σ2)) rfl ?_
    refine PW.callV (b := 39) (vs := [.int 1, .int (σ2 39 16)]) (rest := []) (ins_l hw_120 rfl) rfl rfl rfl (Nat.le_of_ble_eq_true rfl) (Nat.le_of_ble_eq_true rfl) (PW.mono h ?_)
    rintro _ σ3 ⟨v3, rfl, h⟩
    show PW none 120 28 [some (.ref 39), some (.int a), some (.int b), some (.int v1)] [.int v3] σ3 _
    exact PW.iret (ins_l hw_120 rfl) (Or.inl rfl) ⟨_, rfl, h⟩
set_option maxRecDepth 20000 in
theorem w_120_42 {a : Int32} {b : Int32} {x3 : Int32} {σ : St} {K : Int32 → St → Prop} (h : (if (σ 39 14) ≤ (σ 39 16) then (if 3 < ((σ 39 16) - (σ 39 18)) then CI 119 [.ref 39, .int 2, .int (σ 39 18)] σ (fun v1 σ1 => K v1 σ1) else CI 109 [.long (Int32.toInt64 (σ 39 17)), .long (Int32.toInt64 a), .long (Int32.toInt64 b)] σ (fun v2 σ2 => (if v2 = 0 then CI 119 [.ref 39, .int 2, .int (σ2 39 18)] σ2 (fun v3 σ3 => K v3 σ3) else K 0 σ2))) else ((0 ≤ (σ 39 16).toInt ∧ (σ 39 16).toInt < 240) ∧ CI 109 [.long (Int32.toInt64 (σ 47 (Int32.toNatClampNeg (σ 39 16)))), .long 48, .long 57] σ (fun v4 σ4 => (if v4 = 0 then (if 3 < ((σ4 39 16) - (σ4 39 18)) then CI 119 [.ref 39, .int 2, .int (σ4 39 18)] σ4 (fun v5 σ5 => K v5 σ5) else CI 109 [.long (Int32.toInt64 (σ4 39 17)), .long (Int32.toInt64 a), .long (Int32.toInt64 b)] σ4 (fun v6 σ6 => (if v6 = 0 then CI 119 [.ref 39, .int 2, .int (σ6 39 18)] σ6 (fun v7 σ7 => K v7 σ7) else K 0 σ6))) else (if (σ4 39 17) ≤ 10000 then ((0 ≤ (σ4 39 16).toInt ∧ (σ4 39 16).toInt < 240) ∧ PI 120 42 [some (.ref 39), some (.int a), some (.int b), some (.int x3)] [] (s2 (s2 σ4 39 17 (((10 * (σ4 39 17)) + (σ4 47 (Int32.toNatClampNeg (σ4 39 16)))) - 48)) 39 16 ((σ4 39 16) + 1)) K) else PI 120 42 [some (.ref 39), some (.int a), some (.int b), some (.int x3)] [] (s2 (s2 σ4 39 17 (σ4 39 17)) 39 16 ((σ4 39 16) + 1)) K)))))) : PI 120 42 [some (.ref 39), some (.int a), some (.int b), some (.int x3)] [] σ K := by
  show PW none 120 42 [some (.ref 39), some (.int a), some (.int b), some (.int x3)] [] σ _
  refine PW.runs hw_120 rfl 4 (q := (42, [some (.ref 39), some (.int a), some (.int b), some (.int x3)], [], σ)) (q' := (50, [some (.ref 39), some (.int a), some (.int b), some (.int x3)], [.int (σ 39 14), .int (σ 39 16)], σ)) rfl ?_
  refine PW.icm (t := 129) (ins_l hw_120 rfl) rfl (fun hc1 => ?_) (fun hc1 => ?_)
  · replace h := (if_pos (c_geT hc1)).mp h
    refine PW.runs hw_120 rfl 6 (q := (129, [some (.ref 39), some (.int a), some (.int b), some (.int x3)], [], σ)) (q' := (139, [some (.ref 39), some (.int a), some (.int b), some (.int x3)], [.int 3, .int ((σ 39 16) - (σ 39 18))], σ)) rfl ?_
    refine PW.icm (t := 157) (ins_l hw_120 rfl) rfl (fun hc2 => ?_) (fun hc2 => ?_)
    · replace h := (if_pos (c_gtT hc2)).mp h
      refine PW.runs hw_120 rfl 4 (q := (157, [some (.ref 39), some (.int a), some (.int b), some (.int x3)], [], σ)) (q' := (163, [some (.ref 39), some (.int a), some (.int b), some (.int x3)], [.int (σ 39 18), .int 2, .ref 39], σ)) rfl ?_
      refine PW.callV (b := 39) (vs := [.int 2, .int (σ 39 18)]) (rest := []) (ins_l hw_120 rfl) rfl rfl rfl (Nat.le_of_ble_eq_true rfl) (Nat.le_of_ble_eq_true rfl) (PW.mono h ?_)
      rintro _ σ1 ⟨v1, rfl, h⟩
      show PW none 120 166 [some (.ref 39), some (.int a), some (.int b), some (.int x3)] [.int v1] σ1 _
      refine PW.runs hw_120 rfl 1 (q := (166, [some (.ref 39), some (.int a), some (.int b), some (.int x3)], [.int v1], σ1)) (q' := (170, [some (.ref 39), some (.int a), some (.int b), some (.int x3)], [.int v1], σ1)) rfl ?_
      exact PW.iret (ins_l hw_120 rfl) (Or.inl rfl) ⟨_, rfl, h⟩
    · replace h := (if_neg (c_gtF hc2)).mp h
      refine PW.runs hw_120 rfl 7 (q := (142, [some (.ref 39), some (.int a), some (.int b), some (.int x3)], [], σ)) (q' := (151, [some (.ref 39), some (.int a), some (.int b), some (.int x3)], [.long (Int32.toInt64 b), .long (Int32.toInt64 a), .long (Int32.toInt64 (σ 39 17))], σ)) rfl ?_
      refine PW.callS (vs := [.long (Int32.toInt64 (σ 39 17)), .long (Int32.toInt64 a), .long (Int32.toInt64 b)]) (rest := []) (ins_l hw_120 rfl) rfl (Or.inl rfl) rfl (Nat.le_of_ble_eq_true rfl) (Nat.le_of_ble_eq_true rfl) (PW.mono h ?_)
      rintro _ σ2 ⟨v2, rfl, h⟩
      show PW none 120 154 [some (.ref 39), some (.int a), some (.int b), some (.int x3)] [.int v2] σ2 _
      refine PW.ifc (t := 169) (ins_l hw_120 rfl) rfl (fun hc3 => ?_) (fun hc3 => ?_)
      · replace h := (if_neg (c_neT hc3)).mp h
        refine PW.runs hw_120 rfl 1 (q := (169, [some (.ref 39), some (.int a), some (.int b), some (.int x3)], [], σ2)) (q' := (170, [some (.ref 39), some (.int a), some (.int b), some (.int x3)], [.int 0], σ2)) rfl ?_
        exact PW.iret (ins_l hw_120 rfl) (Or.inl rfl) ⟨_, rfl, h⟩
      · replace h := (if_pos (c_neF hc3)).mp h
        refine PW.runs hw_120 rfl 4 (q := (157, [some (.ref 39), some (.int a), some (.int b), some (.int x3)], [], σ2)) (q' := (163, [some (.ref 39), some (.int a), some (.int b), some (.int x3)], [.int (σ2 39 18), .int 2, .ref 39], σ2)) rfl ?_
        refine PW.callV (b := 39) (vs := [.int 2, .int (σ2 39 18)]) (rest := []) (ins_l hw_120 rfl) rfl rfl rfl (Nat.le_of_ble_eq_true rfl) (Nat.le_of_ble_eq_true rfl) (PW.mono h ?_)
        rintro _ σ3 ⟨v3, rfl, h⟩
        show PW none 120 166 [some (.ref 39), some (.int a), some (.int b), some (.int x3)] [.int v3] σ3 _
        refine PW.runs hw_120 rfl 1 (q := (166, [some (.ref 39), some (.int a), some (.int b), some (.int x3)], [.int v3], σ3)) (q' := (170, [some (.ref 39), some (.int a), some (.int b), some (.int x3)], [.int v3], σ3)) rfl ?_
        exact PW.iret (ins_l hw_120 rfl) (Or.inl rfl) ⟨_, rfl, h⟩
  · replace h := (if_neg (c_geF hc1)).mp h
    refine PW.runs hw_120 rfl 4 (q := (53, [some (.ref 39), some (.int a), some (.int b), some (.int x3)], [], σ)) (q' := (61, [some (.ref 39), some (.int a), some (.int b), some (.int x3)], [.int (σ 39 16), .ref 47], σ)) rfl ?_
    obtain ⟨hb1, h⟩ := h
    refine PW.iald (n := 240) (ins_l hw_120 rfl) rfl (idx_in hb1.1 hb1.2).1 ?_
    refine PW.runs hw_120 rfl 3 (q := (62, [some (.ref 39), some (.int a), some (.int b), some (.int x3)], [.int (σ 47 (Int32.toNatClampNeg (σ 39 16)))], σ)) (q' := (69, [some (.ref 39), some (.int a), some (.int b), some (.int x3)], [.long 57, .long 48, .long (Int32.toInt64 (σ 47 (Int32.toNatClampNeg (σ 39 16))))], σ)) rfl ?_
    refine PW.callS (vs := [.long (Int32.toInt64 (σ 47 (Int32.toNatClampNeg (σ 39 16)))), .long 48, .long 57]) (rest := []) (ins_l hw_120 rfl) rfl (Or.inl rfl) rfl (Nat.le_of_ble_eq_true rfl) (Nat.le_of_ble_eq_true rfl) (PW.mono h ?_)
    rintro _ σ4 ⟨v4, rfl, h⟩
    show PW none 120 72 [some (.ref 39), some (.int a), some (.int b), some (.int x3)] [.int v4] σ4 _
    refine PW.ifc (t := 129) (ins_l hw_120 rfl) rfl (fun hc2 => ?_) (fun hc2 => ?_)
    · replace h := (if_pos (c_eqT hc2)).mp h
      refine PW.runs hw_120 rfl 6 (q := (129, [some (.ref 39), some (.int a), some (.int b), some (.int x3)], [], σ4)) (q' := (139, [some (.ref 39), some (.int a), some (.int b), some (.int x3)], [.int 3, .int ((σ4 39 16) - (σ4 39 18))], σ4)) rfl ?_
      refine PW.icm (t := 157) (ins_l hw_120 rfl) rfl (fun hc3 => ?_) (fun hc3 => ?_)
      · replace h := (if_pos (c_gtT hc3)).mp h
        refine PW.runs hw_120 rfl 4 (q := (157, [some (.ref 39), some (.int a), some (.int b), some (.int x3)], [], σ4)) (q' := (163, [some (.ref 39), some (.int a), some (.int b), some (.int x3)], [.int (σ4 39 18), .int 2, .ref 39], σ4)) rfl ?_
        refine PW.callV (b := 39) (vs := [.int 2, .int (σ4 39 18)]) (rest := []) (ins_l hw_120 rfl) rfl rfl rfl (Nat.le_of_ble_eq_true rfl) (Nat.le_of_ble_eq_true rfl) (PW.mono h ?_)
        rintro _ σ5 ⟨v5, rfl, h⟩
        show PW none 120 166 [some (.ref 39), some (.int a), some (.int b), some (.int x3)] [.int v5] σ5 _
        refine PW.runs hw_120 rfl 1 (q := (166, [some (.ref 39), some (.int a), some (.int b), some (.int x3)], [.int v5], σ5)) (q' := (170, [some (.ref 39), some (.int a), some (.int b), some (.int x3)], [.int v5], σ5)) rfl ?_
        exact PW.iret (ins_l hw_120 rfl) (Or.inl rfl) ⟨_, rfl, h⟩
      · replace h := (if_neg (c_gtF hc3)).mp h
        refine PW.runs hw_120 rfl 7 (q := (142, [some (.ref 39), some (.int a), some (.int b), some (.int x3)], [], σ4)) (q' := (151, [some (.ref 39), some (.int a), some (.int b), some (.int x3)], [.long (Int32.toInt64 b), .long (Int32.toInt64 a), .long (Int32.toInt64 (σ4 39 17))], σ4)) rfl ?_
        refine PW.callS (vs := [.long (Int32.toInt64 (σ4 39 17)), .long (Int32.toInt64 a), .long (Int32.toInt64 b)]) (rest := []) (ins_l hw_120 rfl) rfl (Or.inl rfl) rfl (Nat.le_of_ble_eq_true rfl) (Nat.le_of_ble_eq_true rfl) (PW.mono h ?_)
        rintro _ σ6 ⟨v6, rfl, h⟩
        show PW none 120 154 [some (.ref 39), some (.int a), some (.int b), some (.int x3)] [.int v6] σ6 _
        refine PW.ifc (t := 169) (ins_l hw_120 rfl) rfl (fun hc4 => ?_) (fun hc4 => ?_)
        · replace h := (if_neg (c_neT hc4)).mp h
          refine PW.runs hw_120 rfl 1 (q := (169, [some (.ref 39), some (.int a), some (.int b), some (.int x3)], [], σ6)) (q' := (170, [some (.ref 39), some (.int a), some (.int b), some (.int x3)], [.int 0], σ6)) rfl ?_
          exact PW.iret (ins_l hw_120 rfl) (Or.inl rfl) ⟨_, rfl, h⟩
        · replace h := (if_pos (c_neF hc4)).mp h
          refine PW.runs hw_120 rfl 4 (q := (157, [some (.ref 39), some (.int a), some (.int b), some (.int x3)], [], σ6)) (q' := (163, [some (.ref 39), some (.int a), some (.int b), some (.int x3)], [.int (σ6 39 18), .int 2, .ref 39], σ6)) rfl ?_
          refine PW.callV (b := 39) (vs := [.int 2, .int (σ6 39 18)]) (rest := []) (ins_l hw_120 rfl) rfl rfl rfl (Nat.le_of_ble_eq_true rfl) (Nat.le_of_ble_eq_true rfl) (PW.mono h ?_)
          rintro _ σ7 ⟨v7, rfl, h⟩
          show PW none 120 166 [some (.ref 39), some (.int a), some (.int b), some (.int x3)] [.int v7] σ7 _
          refine PW.runs hw_120 rfl 1 (q := (166, [some (.ref 39), some (.int a), some (.int b), some (.int x3)], [.int v7], σ7)) (q' := (170, [some (.ref 39), some (.int a), some (.int b), some (.int x3)], [.int v7], σ7)) rfl ?_
          exact PW.iret (ins_l hw_120 rfl) (Or.inl rfl) ⟨_, rfl, h⟩
    · replace h := (if_neg (c_eqF hc2)).mp h
      refine PW.runs hw_120 rfl 4 (q := (75, [some (.ref 39), some (.int a), some (.int b), some (.int x3)], [], σ4)) (q' := (83, [some (.ref 39), some (.int a), some (.int b), some (.int x3)], [.int 10000, .int (σ4 39 17), .ref 39], σ4)) rfl ?_
      refine PW.icm (t := 93) (ins_l hw_120 rfl) rfl (fun hc3 => ?_) (fun hc3 => ?_)
      · replace h := (if_pos (c_leT hc3)).mp h
        refine PW.runs hw_120 rfl 8 (q := (93, [some (.ref 39), some (.int a), some (.int b), some (.int x3)], [.ref 39], σ4)) (q' := (108, [some (.ref 39), some (.int a), some (.int b), some (.int x3)], [.int (σ4 39 16), .ref 47, .int (10 * (σ4 39 17)), .ref 39], σ4)) rfl ?_
        obtain ⟨hb2, h⟩ := h
        refine PW.iald (n := 240) (ins_l hw_120 rfl) rfl (idx_in hb2.1 hb2.2).1 ?_
        refine PW.runs hw_120 rfl 11 (q := (109, [some (.ref 39), some (.int a), some (.int b), some (.int x3)], [.int (σ4 47 (Int32.toNatClampNeg (σ4 39 16))), .int (10 * (σ4 39 17)), .ref 39], σ4)) (q' := (42, [some (.ref 39), some (.int a), some (.int b), some (.int x3)], [], (s2 (s2 σ4 39 17 (((10 * (σ4 39 17)) + (σ4 47 (Int32.toNatClampNeg (σ4 39 16)))) - 48)) 39 16 ((σ4 39 16) + 1)))) rfl ?_
        exact h
      · replace h := (if_neg (c_leF hc3)).mp h
        refine PW.runs hw_120 rfl 11 (q := (86, [some (.ref 39), some (.int a), some (.int b), some (.int x3)], [.ref 39], σ4)) (q' := (42, [some (.ref 39), some (.int a), some (.int b), some (.int x3)], [], (s2 (s2 σ4 39 17 (σ4 39 17)) 39 16 ((σ4 39 16) + 1)))) rfl ?_
        exact h
theorem hw_122 : pins.getD 122 [] = pi_122 := rfl
/-! MapDutyModel.takePlaces.()I -/
set_option maxRecDepth 20000 in
theorem w_122  {σ : St} {K : Int32 → St → Prop} (h : CI 120 [.ref 39, .int 2, .int 8] σ (fun v1 σ1 => K v1 (s2 σ1 39 19 (σ1 39 17)))) : CI 122 [.ref 39] σ K := by
  show PW none 122 0 [some (.ref 39), none] [] σ _
  refine PW.runs hw_122 rfl 3 (q := (0, [some (.ref 39), none], [], σ)) (q' := (4, [some (.ref 39), none], [.int 8, .int 2, .ref 39], σ)) rfl ?_
  refine PW.callV (b := 39) (vs := [.int 2, .int 8]) (rest := []) (ins_l hw_122 rfl) rfl rfl rfl (Nat.le_of_ble_eq_true rfl) (Nat.le_of_ble_eq_true rfl) (PW.mono h ?_)
  rintro _ σ1 ⟨v1, rfl, h⟩
  show PW none 122 7 [some (.ref 39), none] [.int v1] σ1 _
  refine PW.runs hw_122 rfl 6 (q := (7, [some (.ref 39), none], [.int v1], σ1)) (q' := (17, [some (.ref 39), some (.int v1)], [.int v1], (s2 σ1 39 19 (σ1 39 17)))) rfl ?_
  exact PW.iret (ins_l hw_122 rfl) (Or.inl rfl) ⟨_, rfl, h⟩
theorem hw_123 : pins.getD 123 [] = pi_123 := rfl
/-! MapDutyModel.isTold.(II)Z -/
set_option maxRecDepth 20000 in
theorem w_123 {a : Int32} {b : Int32} {σ : St} {K : Int32 → St → Prop} (h : PI 123 5 [some (.ref 39), some (.int a), some (.int b), some (.int 0), some (.int 0)] [] σ K) : CI 123 [.ref 39, .int a, .int b] σ K := by
  show PW none 123 0 [some (.ref 39), some (.int a), some (.int b), none, none] [] σ _
  refine PW.runs hw_123 rfl 4 (q := (0, [some (.ref 39), some (.int a), some (.int b), none, none], [], σ)) (q' := (5, [some (.ref 39), some (.int a), some (.int b), some (.int 0), some (.int 0)], [], σ)) rfl ?_
  exact h
set_option maxRecDepth 20000 in
theorem w_123_5 {a : Int32} {b : Int32} {x3 : Int32} {x4 : Int32} {σ : St} {K : Int32 → St → Prop} (h : (if (σ 39 20) ≤ x4 then ((x3 = 0 ∨ x3 = 1) ∧ K x3 σ) else (if x3 = 0 then ((0 ≤ x4.toInt ∧ x4.toInt < 12) ∧ (if (σ 48 (Int32.toNatClampNeg x4)) = a then (if (σ 49 (Int32.toNatClampNeg x4)) = b then PI 123 5 [some (.ref 39), some (.int a), some (.int b), some (.int 1), some (.int (x4 + 1))] [] σ K else (if (σ 48 (Int32.toNatClampNeg x4)) = b then (if (σ 49 (Int32.toNatClampNeg x4)) = a then PI 123 5 [some (.ref 39), some (.int a), some (.int b), some (.int 1), some (.int (x4 + 1))] [] σ K else PI 123 5 [some (.ref 39), some (.int a), some (.int b), some (.int 0), some (.int (x4 + 1))] [] σ K) else PI 123 5 [some (.ref 39), some (.int a), some (.int b), some (.int 0), some (.int (x4 + 1))] [] σ K)) else (if (σ 48 (Int32.toNatClampNeg x4)) = b then (if (σ 49 (Int32.toNatClampNeg x4)) = a then PI 123 5 [some (.ref 39), some (.int a), some (.int b), some (.int 1), some (.int (x4 + 1))] [] σ K else PI 123 5 [some (.ref 39), some (.int a), some (.int b), some (.int 0), some (.int (x4 + 1))] [] σ K) else PI 123 5 [some (.ref 39), some (.int a), some (.int b), some (.int 0), some (.int (x4 + 1))] [] σ K))) else PI 123 5 [some (.ref 39), some (.int a), some (.int b), some (.int 1), some (.int (x4 + 1))] [] σ K))) : PI 123 5 [some (.ref 39), some (.int a), some (.int b), some (.int x3), some (.int x4)] [] σ K := by
  show PW none 123 5 [some (.ref 39), some (.int a), some (.int b), some (.int x3), some (.int x4)] [] σ _
  refine PW.runs hw_123 rfl 3 (q := (5, [some (.ref 39), some (.int a), some (.int b), some (.int x3), some (.int x4)], [], σ)) (q' := (11, [some (.ref 39), some (.int a), some (.int b), some (.int x3), some (.int x4)], [.int (σ 39 20), .int x4], σ)) rfl ?_
  refine PW.icm (t := 74) (ins_l hw_123 rfl) rfl (fun hc1 => ?_) (fun hc1 => ?_)
  · replace h := (if_pos (c_geT hc1)).mp h
    refine PW.runs hw_123 rfl 1 (q := (74, [some (.ref 39), some (.int a), some (.int b), some (.int x3), some (.int x4)], [], σ)) (q' := (75, [some (.ref 39), some (.int a), some (.int b), some (.int x3), some (.int x4)], [.int x3], σ)) rfl ?_
    exact PW.iret (ins_l hw_123 rfl) (Or.inr ⟨rfl, h.1⟩) ⟨_, rfl, h.2⟩
  · replace h := (if_neg (c_geF hc1)).mp h
    refine PW.runs hw_123 rfl 1 (q := (14, [some (.ref 39), some (.int a), some (.int b), some (.int x3), some (.int x4)], [], σ)) (q' := (15, [some (.ref 39), some (.int a), some (.int b), some (.int x3), some (.int x4)], [.int x3], σ)) rfl ?_
    refine PW.ifc (t := 62) (ins_l hw_123 rfl) rfl (fun hc2 => ?_) (fun hc2 => ?_)
    · replace h := (if_neg (c_neT hc2)).mp h
      refine PW.runs hw_123 rfl 5 (q := (62, [some (.ref 39), some (.int a), some (.int b), some (.int x3), some (.int x4)], [], σ)) (q' := (5, [some (.ref 39), some (.int a), some (.int b), some (.int 1), some (.int (x4 + 1))], [], σ)) rfl ?_
      exact h
    · replace h := (if_pos (c_neF hc2)).mp h
      refine PW.runs hw_123 rfl 3 (q := (18, [some (.ref 39), some (.int a), some (.int b), some (.int x3), some (.int x4)], [], σ)) (q' := (24, [some (.ref 39), some (.int a), some (.int b), some (.int x3), some (.int x4)], [.int x4, .ref 48], σ)) rfl ?_
      obtain ⟨hb1, h⟩ := h
      refine PW.iald (n := 12) (ins_l hw_123 rfl) rfl (idx_in hb1.1 hb1.2).1 ?_
      refine PW.runs hw_123 rfl 1 (q := (25, [some (.ref 39), some (.int a), some (.int b), some (.int x3), some (.int x4)], [.int (σ 48 (Int32.toNatClampNeg x4))], σ)) (q' := (26, [some (.ref 39), some (.int a), some (.int b), some (.int x3), some (.int x4)], [.int a, .int (σ 48 (Int32.toNatClampNeg x4))], σ)) rfl ?_
      refine PW.icm (t := 40) (ins_l hw_123 rfl) rfl (fun hc3 => ?_) (fun hc3 => ?_)
      · replace h := (if_neg (c_neT hc3)).mp h
        refine PW.runs hw_123 rfl 3 (q := (40, [some (.ref 39), some (.int a), some (.int b), some (.int x3), some (.int x4)], [], σ)) (q' := (46, [some (.ref 39), some (.int a), some (.int b), some (.int x3), some (.int x4)], [.int x4, .ref 48], σ)) rfl ?_
        refine PW.iald (n := 12) (ins_l hw_123 rfl) rfl (idx_in hb1.1 hb1.2).1 ?_
        refine PW.runs hw_123 rfl 1 (q := (47, [some (.ref 39), some (.int a), some (.int b), some (.int x3), some (.int x4)], [.int (σ 48 (Int32.toNatClampNeg x4))], σ)) (q' := (48, [some (.ref 39), some (.int a), some (.int b), some (.int x3), some (.int x4)], [.int b, .int (σ 48 (Int32.toNatClampNeg x4))], σ)) rfl ?_
        refine PW.icm (t := 66) (ins_l hw_123 rfl) rfl (fun hc4 => ?_) (fun hc4 => ?_)
        · replace h := (if_neg (c_neT hc4)).mp h
          refine PW.runs hw_123 rfl 4 (q := (66, [some (.ref 39), some (.int a), some (.int b), some (.int x3), some (.int x4)], [], σ)) (q' := (5, [some (.ref 39), some (.int a), some (.int b), some (.int 0), some (.int (x4 + 1))], [], σ)) rfl ?_
          exact h
        · replace h := (if_pos (c_neF hc4)).mp h
          refine PW.runs hw_123 rfl 3 (q := (51, [some (.ref 39), some (.int a), some (.int b), some (.int x3), some (.int x4)], [], σ)) (q' := (57, [some (.ref 39), some (.int a), some (.int b), some (.int x3), some (.int x4)], [.int x4, .ref 49], σ)) rfl ?_
          refine PW.iald (n := 12) (ins_l hw_123 rfl) rfl (idx_in hb1.1 hb1.2).1 ?_
          refine PW.runs hw_123 rfl 1 (q := (58, [some (.ref 39), some (.int a), some (.int b), some (.int x3), some (.int x4)], [.int (σ 49 (Int32.toNatClampNeg x4))], σ)) (q' := (59, [some (.ref 39), some (.int a), some (.int b), some (.int x3), some (.int x4)], [.int a, .int (σ 49 (Int32.toNatClampNeg x4))], σ)) rfl ?_
          refine PW.icm (t := 66) (ins_l hw_123 rfl) rfl (fun hc5 => ?_) (fun hc5 => ?_)
          · replace h := (if_neg (c_neT hc5)).mp h
            refine PW.runs hw_123 rfl 4 (q := (66, [some (.ref 39), some (.int a), some (.int b), some (.int x3), some (.int x4)], [], σ)) (q' := (5, [some (.ref 39), some (.int a), some (.int b), some (.int 0), some (.int (x4 + 1))], [], σ)) rfl ?_
            exact h
          · replace h := (if_pos (c_neF hc5)).mp h
            refine PW.runs hw_123 rfl 5 (q := (62, [some (.ref 39), some (.int a), some (.int b), some (.int x3), some (.int x4)], [], σ)) (q' := (5, [some (.ref 39), some (.int a), some (.int b), some (.int 1), some (.int (x4 + 1))], [], σ)) rfl ?_
            exact h
      · replace h := (if_pos (c_neF hc3)).mp h
        refine PW.runs hw_123 rfl 3 (q := (29, [some (.ref 39), some (.int a), some (.int b), some (.int x3), some (.int x4)], [], σ)) (q' := (35, [some (.ref 39), some (.int a), some (.int b), some (.int x3), some (.int x4)], [.int x4, .ref 49], σ)) rfl ?_
        refine PW.iald (n := 12) (ins_l hw_123 rfl) rfl (idx_in hb1.1 hb1.2).1 ?_
        refine PW.runs hw_123 rfl 1 (q := (36, [some (.ref 39), some (.int a), some (.int b), some (.int x3), some (.int x4)], [.int (σ 49 (Int32.toNatClampNeg x4))], σ)) (q' := (37, [some (.ref 39), some (.int a), some (.int b), some (.int x3), some (.int x4)], [.int b, .int (σ 49 (Int32.toNatClampNeg x4))], σ)) rfl ?_
        refine PW.icm (t := 62) (ins_l hw_123 rfl) rfl (fun hc4 => ?_) (fun hc4 => ?_)
        · replace h := (if_pos (c_eqT hc4)).mp h
          refine PW.runs hw_123 rfl 5 (q := (62, [some (.ref 39), some (.int a), some (.int b), some (.int x3), some (.int x4)], [], σ)) (q' := (5, [some (.ref 39), some (.int a), some (.int b), some (.int 1), some (.int (x4 + 1))], [], σ)) rfl ?_
          exact h
        · replace h := (if_neg (c_eqF hc4)).mp h
          refine PW.runs hw_123 rfl 3 (q := (40, [some (.ref 39), some (.int a), some (.int b), some (.int x3), some (.int x4)], [], σ)) (q' := (46, [some (.ref 39), some (.int a), some (.int b), some (.int x3), some (.int x4)], [.int x4, .ref 48], σ)) rfl ?_
          refine PW.iald (n := 12) (ins_l hw_123 rfl) rfl (idx_in hb1.1 hb1.2).1 ?_
          refine PW.runs hw_123 rfl 1 (q := (47, [some (.ref 39), some (.int a), some (.int b), some (.int x3), some (.int x4)], [.int (σ 48 (Int32.toNatClampNeg x4))], σ)) (q' := (48, [some (.ref 39), some (.int a), some (.int b), some (.int x3), some (.int x4)], [.int b, .int (σ 48 (Int32.toNatClampNeg x4))], σ)) rfl ?_
          refine PW.icm (t := 66) (ins_l hw_123 rfl) rfl (fun hc5 => ?_) (fun hc5 => ?_)
          · replace h := (if_neg (c_neT hc5)).mp h
            refine PW.runs hw_123 rfl 4 (q := (66, [some (.ref 39), some (.int a), some (.int b), some (.int x3), some (.int x4)], [], σ)) (q' := (5, [some (.ref 39), some (.int a), some (.int b), some (.int 0), some (.int (x4 + 1))], [], σ)) rfl ?_
            exact h
          · replace h := (if_pos (c_neF hc5)).mp h
            refine PW.runs hw_123 rfl 3 (q := (51, [some (.ref 39), some (.int a), some (.int b), some (.int x3), some (.int x4)], [], σ)) (q' := (57, [some (.ref 39), some (.int a), some (.int b), some (.int x3), some (.int x4)], [.int x4, .ref 49], σ)) rfl ?_
            refine PW.iald (n := 12) (ins_l hw_123 rfl) rfl (idx_in hb1.1 hb1.2).1 ?_
            refine PW.runs hw_123 rfl 1 (q := (58, [some (.ref 39), some (.int a), some (.int b), some (.int x3), some (.int x4)], [.int (σ 49 (Int32.toNatClampNeg x4))], σ)) (q' := (59, [some (.ref 39), some (.int a), some (.int b), some (.int x3), some (.int x4)], [.int a, .int (σ 49 (Int32.toNatClampNeg x4))], σ)) rfl ?_
            refine PW.icm (t := 66) (ins_l hw_123 rfl) rfl (fun hc6 => ?_) (fun hc6 => ?_)
            · replace h := (if_neg (c_neT hc6)).mp h
              refine PW.runs hw_123 rfl 4 (q := (66, [some (.ref 39), some (.int a), some (.int b), some (.int x3), some (.int x4)], [], σ)) (q' := (5, [some (.ref 39), some (.int a), some (.int b), some (.int 0), some (.int (x4 + 1))], [], σ)) rfl ?_
              exact h
            · replace h := (if_pos (c_neF hc6)).mp h
              refine PW.runs hw_123 rfl 5 (q := (62, [some (.ref 39), some (.int a), some (.int b), some (.int x3), some (.int x4)], [], σ)) (q' := (5, [some (.ref 39), some (.int a), some (.int b), some (.int 1), some (.int (x4 + 1))], [], σ)) rfl ?_
              exact h
theorem hw_124 : pins.getD 124 [] = pi_124 := rfl
/-! MapDutyModel.takeLine.()I -/
set_option maxRecDepth 20000 in
theorem w_124  {σ : St} {K : Int32 → St → Prop} (h : CI 121 [.ref 39, .ref 48, .int (σ 39 20), .int 0, .int ((σ 39 19) - 1)] σ (fun v1 σ1 => (if v1 ≤ 0 then CI 121 [.ref 39, .ref 49, .int (σ 39 20), .int 0, .int ((σ1 39 19) - 1)] σ1 (fun v2 σ2 => (if v2 = 0 then ((0 ≤ (σ 39 20).toInt ∧ (σ 39 20).toInt < 12) ∧ (if (σ2 48 (Int32.toNatClampNeg (σ 39 20))) = (σ2 49 (Int32.toNatClampNeg (σ 39 20))) then CI 119 [.ref 39, .int 4, .int (σ2 39 18)] σ2 (fun v5 σ5 => K v5 σ5) else CI 123 [.ref 39, .int (σ2 48 (Int32.toNatClampNeg (σ 39 20))), .int (σ2 49 (Int32.toNatClampNeg (σ 39 20)))] σ2 (fun v6 σ6 => (if v6 = 0 then (if v2 ≤ 0 then CI 120 [.ref 39, .int 0, .int 1] σ6 (fun v7 σ7 => (if v7 ≤ 0 then CI 121 [.ref 39, .ref 50, .int (σ 39 20), .int 0, .int 50] (s2 (s2 σ7 39 24 ((σ7 39 24) ||| ((σ7 39 17) <<< ((σ 39 20) &&& 31)))) 39 20 ((σ7 39 20) + 1)) (fun v8 σ8 => K v8 σ8) else K v7 (s2 (s2 σ7 39 24 ((σ7 39 24) ||| 0)) 39 20 ((σ7 39 20) + 1)))) else K v2 (s2 (s2 σ6 39 24 ((σ6 39 24) ||| 0)) 39 20 ((σ6 39 20) + 1))) else CI 119 [.ref 39, .int 4, .int (σ6 39 18)] σ6 (fun v9 σ9 => K v9 σ9))))) else (if v2 ≤ 0 then CI 120 [.ref 39, .int 0, .int 1] σ2 (fun v3 σ3 => (if v3 ≤ 0 then CI 121 [.ref 39, .ref 50, .int (σ 39 20), .int 0, .int 50] (s2 (s2 σ3 39 24 ((σ3 39 24) ||| ((σ3 39 17) <<< ((σ 39 20) &&& 31)))) 39 20 ((σ3 39 20) + 1)) (fun v4 σ4 => K v4 σ4) else K v3 (s2 (s2 σ3 39 24 ((σ3 39 24) ||| 0)) 39 20 ((σ3 39 20) + 1)))) else K v2 (s2 (s2 σ2 39 24 ((σ2 39 24) ||| 0)) 39 20 ((σ2 39 20) + 1))))) else (if v1 = 0 then ((0 ≤ (σ 39 20).toInt ∧ (σ 39 20).toInt < 12) ∧ (if (σ1 48 (Int32.toNatClampNeg (σ 39 20))) = (σ1 49 (Int32.toNatClampNeg (σ 39 20))) then CI 119 [.ref 39, .int 4, .int (σ1 39 18)] σ1 (fun v10 σ10 => K v10 σ10) else CI 123 [.ref 39, .int (σ1 48 (Int32.toNatClampNeg (σ 39 20))), .int (σ1 49 (Int32.toNatClampNeg (σ 39 20)))] σ1 (fun v11 σ11 => (if v11 = 0 then K v1 (s2 (s2 σ11 39 24 ((σ11 39 24) ||| 0)) 39 20 ((σ11 39 20) + 1)) else CI 119 [.ref 39, .int 4, .int (σ11 39 18)] σ11 (fun v12 σ12 => K v12 σ12))))) else K v1 (s2 (s2 σ1 39 24 ((σ1 39 24) ||| 0)) 39 20 ((σ1 39 20) + 1)))))) : CI 124 [.ref 39] σ K := by
  show PW none 124 0 [some (.ref 39), none, none] [] σ _
  refine PW.runs hw_124 rfl 12 (q := (0, [some (.ref 39), none, none], [], σ)) (q' := (18, [some (.ref 39), some (.int (σ 39 20)), none], [.int ((σ 39 19) - 1), .int 0, .int (σ 39 20), .ref 48, .ref 39], σ)) rfl ?_
  refine PW.callV (b := 39) (vs := [.ref 48, .int (σ 39 20), .int 0, .int ((σ 39 19) - 1)]) (rest := []) (ins_l hw_124 rfl) rfl rfl rfl (Nat.le_of_ble_eq_true rfl) (Nat.le_of_ble_eq_true rfl) (PW.mono h ?_)
  rintro _ σ1 ⟨v1, rfl, h⟩
  show PW none 124 21 [some (.ref 39), some (.int (σ 39 20)), none] [.int v1] σ1 _
  refine PW.runs hw_124 rfl 2 (q := (21, [some (.ref 39), some (.int (σ 39 20)), none], [.int v1], σ1)) (q' := (23, [some (.ref 39), some (.int (σ 39 20)), some (.int v1)], [.int v1], σ1)) rfl ?_
  refine PW.ifc (t := 30) (ins_l hw_124 rfl) rfl (fun hc1 => ?_) (fun hc1 => ?_)
  · replace h := (if_pos (c_leT hc1)).mp h
    refine PW.runs hw_124 rfl 9 (q := (30, [some (.ref 39), some (.int (σ 39 20)), some (.int v1)], [], σ1)) (q' := (43, [some (.ref 39), some (.int (σ 39 20)), some (.int v1)], [.int ((σ1 39 19) - 1), .int 0, .int (σ 39 20), .ref 49, .ref 39], σ1)) rfl ?_
    refine PW.callV (b := 39) (vs := [.ref 49, .int (σ 39 20), .int 0, .int ((σ1 39 19) - 1)]) (rest := []) (ins_l hw_124 rfl) rfl rfl rfl (Nat.le_of_ble_eq_true rfl) (Nat.le_of_ble_eq_true rfl) (PW.mono h ?_)
    rintro _ σ2 ⟨v2, rfl, h⟩
    show PW none 124 46 [some (.ref 39), some (.int (σ 39 20)), some (.int v1)] [.int v2] σ2 _
    refine PW.runs hw_124 rfl 2 (q := (46, [some (.ref 39), some (.int (σ 39 20)), some (.int v1)], [.int v2], σ2)) (q' := (48, [some (.ref 39), some (.int (σ 39 20)), some (.int v2)], [.int v2], σ2)) rfl ?_
    refine PW.ifc (t := 95) (ins_l hw_124 rfl) rfl (fun hc2 => ?_) (fun hc2 => ?_)
    · replace h := (if_neg (c_neT hc2)).mp h
      refine PW.runs hw_124 rfl 1 (q := (95, [some (.ref 39), some (.int (σ 39 20)), some (.int v2)], [], σ2)) (q' := (96, [some (.ref 39), some (.int (σ 39 20)), some (.int v2)], [.int v2], σ2)) rfl ?_
      refine PW.ifc (t := 103) (ins_l hw_124 rfl) rfl (fun hc3 => ?_) (fun hc3 => ?_)
      · replace h := (if_pos (c_leT hc3)).mp h
        refine PW.runs hw_124 rfl 3 (q := (103, [some (.ref 39), some (.int (σ 39 20)), some (.int v2)], [], σ2)) (q' := (106, [some (.ref 39), some (.int (σ 39 20)), some (.int v2)], [.int 1, .int 0, .ref 39], σ2)) rfl ?_
        refine PW.callV (b := 39) (vs := [.int 0, .int 1]) (rest := []) (ins_l hw_124 rfl) rfl rfl rfl (Nat.le_of_ble_eq_true rfl) (Nat.le_of_ble_eq_true rfl) (PW.mono h ?_)
        rintro _ σ3 ⟨v3, rfl, h⟩
        show PW none 124 109 [some (.ref 39), some (.int (σ 39 20)), some (.int v2)] [.int v3] σ3 _
        refine PW.runs hw_124 rfl 5 (q := (109, [some (.ref 39), some (.int (σ 39 20)), some (.int v2)], [.int v3], σ3)) (q' := (116, [some (.ref 39), some (.int (σ 39 20)), some (.int v3)], [.int v3, .int (σ3 39 24), .ref 39], σ3)) rfl ?_
        refine PW.ifc (t := 123) (ins_l hw_124 rfl) rfl (fun hc4 => ?_) (fun hc4 => ?_)
        · replace h := (if_pos (c_leT hc4)).mp h
          refine PW.runs hw_124 rfl 13 (q := (123, [some (.ref 39), some (.int (σ 39 20)), some (.int v3)], [.int (σ3 39 24), .ref 39], σ3)) (q' := (144, [some (.ref 39), some (.int (σ 39 20)), some (.int v3)], [.int v3], (s2 (s2 σ3 39 24 ((σ3 39 24) ||| ((σ3 39 17) <<< ((σ 39 20) &&& 31)))) 39 20 ((σ3 39 20) + 1)))) rfl ?_
          refine PW.ifcT (t := 151) (ins_l hw_124 rfl) rfl hc4 ?_
          refine PW.runs hw_124 rfl 6 (q := (151, [some (.ref 39), some (.int (σ 39 20)), some (.int v3)], [], (s2 (s2 σ3 39 24 ((σ3 39 24) ||| ((σ3 39 17) <<< ((σ 39 20) &&& 31)))) 39 20 ((σ3 39 20) + 1)))) (q' := (160, [some (.ref 39), some (.int (σ 39 20)), some (.int v3)], [.int 50, .int 0, .int (σ 39 20), .ref 50, .ref 39], (s2 (s2 σ3 39 24 ((σ3 39 24) ||| ((σ3 39 17) <<< ((σ 39 20) &&& 31)))) 39 20 ((σ3 39 20) + 1)))) rfl ?_
          refine PW.callV (b := 39) (vs := [.ref 50, .int (σ 39 20), .int 0, .int 50]) (rest := []) (ins_l hw_124 rfl) rfl rfl rfl (Nat.le_of_ble_eq_true rfl) (Nat.le_of_ble_eq_true rfl) (PW.mono h ?_)
          rintro _ σ4 ⟨v4, rfl, h⟩
          show PW none 124 163 [some (.ref 39), some (.int (σ 39 20)), some (.int v3)] [.int v4] σ4 _
          exact PW.iret (ins_l hw_124 rfl) (Or.inl rfl) ⟨_, rfl, h⟩
        · replace h := (if_neg (c_leF hc4)).mp h
          refine PW.runs hw_124 rfl 11 (q := (119, [some (.ref 39), some (.int (σ 39 20)), some (.int v3)], [.int (σ3 39 24), .ref 39], σ3)) (q' := (144, [some (.ref 39), some (.int (σ 39 20)), some (.int v3)], [.int v3], (s2 (s2 σ3 39 24 ((σ3 39 24) ||| 0)) 39 20 ((σ3 39 20) + 1)))) rfl ?_
          refine PW.ifcF (t := 151) (ins_l hw_124 rfl) rfl hc4 ?_
          refine PW.runs hw_124 rfl 2 (q := (147, [some (.ref 39), some (.int (σ 39 20)), some (.int v3)], [], (s2 (s2 σ3 39 24 ((σ3 39 24) ||| 0)) 39 20 ((σ3 39 20) + 1)))) (q' := (163, [some (.ref 39), some (.int (σ 39 20)), some (.int v3)], [.int v3], (s2 (s2 σ3 39 24 ((σ3 39 24) ||| 0)) 39 20 ((σ3 39 20) + 1)))) rfl ?_
          exact PW.iret (ins_l hw_124 rfl) (Or.inl rfl) ⟨_, rfl, h⟩
      · replace h := (if_neg (c_leF hc3)).mp h
        refine PW.runs hw_124 rfl 7 (q := (99, [some (.ref 39), some (.int (σ 39 20)), some (.int v2)], [], σ2)) (q' := (116, [some (.ref 39), some (.int (σ 39 20)), some (.int v2)], [.int v2, .int (σ2 39 24), .ref 39], σ2)) rfl ?_
        refine PW.ifcF (t := 123) (ins_l hw_124 rfl) rfl hc3 ?_
        refine PW.runs hw_124 rfl 11 (q := (119, [some (.ref 39), some (.int (σ 39 20)), some (.int v2)], [.int (σ2 39 24), .ref 39], σ2)) (q' := (144, [some (.ref 39), some (.int (σ 39 20)), some (.int v2)], [.int v2], (s2 (s2 σ2 39 24 ((σ2 39 24) ||| 0)) 39 20 ((σ2 39 20) + 1)))) rfl ?_
        refine PW.ifcF (t := 151) (ins_l hw_124 rfl) rfl hc3 ?_
        refine PW.runs hw_124 rfl 2 (q := (147, [some (.ref 39), some (.int (σ 39 20)), some (.int v2)], [], (s2 (s2 σ2 39 24 ((σ2 39 24) ||| 0)) 39 20 ((σ2 39 20) + 1)))) (q' := (163, [some (.ref 39), some (.int (σ 39 20)), some (.int v2)], [.int v2], (s2 (s2 σ2 39 24 ((σ2 39 24) ||| 0)) 39 20 ((σ2 39 20) + 1)))) rfl ?_
        exact PW.iret (ins_l hw_124 rfl) (Or.inl rfl) ⟨_, rfl, h⟩
    · replace h := (if_pos (c_neF hc2)).mp h
      refine PW.runs hw_124 rfl 3 (q := (51, [some (.ref 39), some (.int (σ 39 20)), some (.int v2)], [], σ2)) (q' := (56, [some (.ref 39), some (.int (σ 39 20)), some (.int v2)], [.int (σ 39 20), .ref 48], σ2)) rfl ?_
      obtain ⟨hb1, h⟩ := h
      refine PW.iald (n := 12) (ins_l hw_124 rfl) rfl (idx_in hb1.1 hb1.2).1 ?_
      refine PW.runs hw_124 rfl 3 (q := (57, [some (.ref 39), some (.int (σ 39 20)), some (.int v2)], [.int (σ2 48 (Int32.toNatClampNeg (σ 39 20)))], σ2)) (q' := (62, [some (.ref 39), some (.int (σ 39 20)), some (.int v2)], [.int (σ 39 20), .ref 49, .int (σ2 48 (Int32.toNatClampNeg (σ 39 20)))], σ2)) rfl ?_
      refine PW.iald (n := 12) (ins_l hw_124 rfl) rfl (idx_in hb1.1 hb1.2).1 ?_
      refine PW.icm (t := 85) (ins_l hw_124 rfl) rfl (fun hc3 => ?_) (fun hc3 => ?_)
      · replace h := (if_pos (c_eqT hc3)).mp h
        refine PW.runs hw_124 rfl 4 (q := (85, [some (.ref 39), some (.int (σ 39 20)), some (.int v2)], [], σ2)) (q' := (91, [some (.ref 39), some (.int (σ 39 20)), some (.int v2)], [.int (σ2 39 18), .int 4, .ref 39], σ2)) rfl ?_
        refine PW.callV (b := 39) (vs := [.int 4, .int (σ2 39 18)]) (rest := []) (ins_l hw_124 rfl) rfl rfl rfl (Nat.le_of_ble_eq_true rfl) (Nat.le_of_ble_eq_true rfl) (PW.mono h ?_)
        rintro _ σ5 ⟨v5, rfl, h⟩
        show PW none 124 94 [some (.ref 39), some (.int (σ 39 20)), some (.int v2)] [.int v5] σ5 _
        exact PW.iret (ins_l hw_124 rfl) (Or.inl rfl) ⟨_, rfl, h⟩
      · replace h := (if_neg (c_eqF hc3)).mp h
        refine PW.runs hw_124 rfl 4 (q := (66, [some (.ref 39), some (.int (σ 39 20)), some (.int v2)], [], σ2)) (q' := (72, [some (.ref 39), some (.int (σ 39 20)), some (.int v2)], [.int (σ 39 20), .ref 48, .ref 39], σ2)) rfl ?_
        refine PW.iald (n := 12) (ins_l hw_124 rfl) rfl (idx_in hb1.1 hb1.2).1 ?_
        refine PW.runs hw_124 rfl 3 (q := (73, [some (.ref 39), some (.int (σ 39 20)), some (.int v2)], [.int (σ2 48 (Int32.toNatClampNeg (σ 39 20))), .ref 39], σ2)) (q' := (78, [some (.ref 39), some (.int (σ 39 20)), some (.int v2)], [.int (σ 39 20), .ref 49, .int (σ2 48 (Int32.toNatClampNeg (σ 39 20))), .ref 39], σ2)) rfl ?_
        refine PW.iald (n := 12) (ins_l hw_124 rfl) rfl (idx_in hb1.1 hb1.2).1 ?_
        refine PW.callV (b := 39) (vs := [.int (σ2 48 (Int32.toNatClampNeg (σ 39 20))), .int (σ2 49 (Int32.toNatClampNeg (σ 39 20)))]) (rest := []) (ins_l hw_124 rfl) rfl rfl rfl (Nat.le_of_ble_eq_true rfl) (Nat.le_of_ble_eq_true rfl) (PW.mono h ?_)
        rintro _ σ6 ⟨v6, rfl, h⟩
        show PW none 124 82 [some (.ref 39), some (.int (σ 39 20)), some (.int v2)] [.int v6] σ6 _
        refine PW.ifc (t := 95) (ins_l hw_124 rfl) rfl (fun hc4 => ?_) (fun hc4 => ?_)
        · replace h := (if_pos (c_eqT hc4)).mp h
          refine PW.runs hw_124 rfl 1 (q := (95, [some (.ref 39), some (.int (σ 39 20)), some (.int v2)], [], σ6)) (q' := (96, [some (.ref 39), some (.int (σ 39 20)), some (.int v2)], [.int v2], σ6)) rfl ?_
          refine PW.ifc (t := 103) (ins_l hw_124 rfl) rfl (fun hc5 => ?_) (fun hc5 => ?_)
          · replace h := (if_pos (c_leT hc5)).mp h
            refine PW.runs hw_124 rfl 3 (q := (103, [some (.ref 39), some (.int (σ 39 20)), some (.int v2)], [], σ6)) (q' := (106, [some (.ref 39), some (.int (σ 39 20)), some (.int v2)], [.int 1, .int 0, .ref 39], σ6)) rfl ?_
            refine PW.callV (b := 39) (vs := [.int 0, .int 1]) (rest := []) (ins_l hw_124 rfl) rfl rfl rfl (Nat.le_of_ble_eq_true rfl) (Nat.le_of_ble_eq_true rfl) (PW.mono h ?_)
            rintro _ σ7 ⟨v7, rfl, h⟩
            show PW none 124 109 [some (.ref 39), some (.int (σ 39 20)), some (.int v2)] [.int v7] σ7 _
            refine PW.runs hw_124 rfl 5 (q := (109, [some (.ref 39), some (.int (σ 39 20)), some (.int v2)], [.int v7], σ7)) (q' := (116, [some (.ref 39), some (.int (σ 39 20)), some (.int v7)], [.int v7, .int (σ7 39 24), .ref 39], σ7)) rfl ?_
            refine PW.ifc (t := 123) (ins_l hw_124 rfl) rfl (fun hc6 => ?_) (fun hc6 => ?_)
            · replace h := (if_pos (c_leT hc6)).mp h
              refine PW.runs hw_124 rfl 13 (q := (123, [some (.ref 39), some (.int (σ 39 20)), some (.int v7)], [.int (σ7 39 24), .ref 39], σ7)) (q' := (144, [some (.ref 39), some (.int (σ 39 20)), some (.int v7)], [.int v7], (s2 (s2 σ7 39 24 ((σ7 39 24) ||| ((σ7 39 17) <<< ((σ 39 20) &&& 31)))) 39 20 ((σ7 39 20) + 1)))) rfl ?_
              refine PW.ifcT (t := 151) (ins_l hw_124 rfl) rfl hc6 ?_
              refine PW.runs hw_124 rfl 6 (q := (151, [some (.ref 39), some (.int (σ 39 20)), some (.int v7)], [], (s2 (s2 σ7 39 24 ((σ7 39 24) ||| ((σ7 39 17) <<< ((σ 39 20) &&& 31)))) 39 20 ((σ7 39 20) + 1)))) (q' := (160, [some (.ref 39), some (.int (σ 39 20)), some (.int v7)], [.int 50, .int 0, .int (σ 39 20), .ref 50, .ref 39], (s2 (s2 σ7 39 24 ((σ7 39 24) ||| ((σ7 39 17) <<< ((σ 39 20) &&& 31)))) 39 20 ((σ7 39 20) + 1)))) rfl ?_
              refine PW.callV (b := 39) (vs := [.ref 50, .int (σ 39 20), .int 0, .int 50]) (rest := []) (ins_l hw_124 rfl) rfl rfl rfl (Nat.le_of_ble_eq_true rfl) (Nat.le_of_ble_eq_true rfl) (PW.mono h ?_)
              rintro _ σ8 ⟨v8, rfl, h⟩
              show PW none 124 163 [some (.ref 39), some (.int (σ 39 20)), some (.int v7)] [.int v8] σ8 _
              exact PW.iret (ins_l hw_124 rfl) (Or.inl rfl) ⟨_, rfl, h⟩
            · replace h := (if_neg (c_leF hc6)).mp h
              refine PW.runs hw_124 rfl 11 (q := (119, [some (.ref 39), some (.int (σ 39 20)), some (.int v7)], [.int (σ7 39 24), .ref 39], σ7)) (q' := (144, [some (.ref 39), some (.int (σ 39 20)), some (.int v7)], [.int v7], (s2 (s2 σ7 39 24 ((σ7 39 24) ||| 0)) 39 20 ((σ7 39 20) + 1)))) rfl ?_
              refine PW.ifcF (t := 151) (ins_l hw_124 rfl) rfl hc6 ?_
              refine PW.runs hw_124 rfl 2 (q := (147, [some (.ref 39), some (.int (σ 39 20)), some (.int v7)], [], (s2 (s2 σ7 39 24 ((σ7 39 24) ||| 0)) 39 20 ((σ7 39 20) + 1)))) (q' := (163, [some (.ref 39), some (.int (σ 39 20)), some (.int v7)], [.int v7], (s2 (s2 σ7 39 24 ((σ7 39 24) ||| 0)) 39 20 ((σ7 39 20) + 1)))) rfl ?_
              exact PW.iret (ins_l hw_124 rfl) (Or.inl rfl) ⟨_, rfl, h⟩
          · replace h := (if_neg (c_leF hc5)).mp h
            refine PW.runs hw_124 rfl 7 (q := (99, [some (.ref 39), some (.int (σ 39 20)), some (.int v2)], [], σ6)) (q' := (116, [some (.ref 39), some (.int (σ 39 20)), some (.int v2)], [.int v2, .int (σ6 39 24), .ref 39], σ6)) rfl ?_
            refine PW.ifcF (t := 123) (ins_l hw_124 rfl) rfl hc5 ?_
            refine PW.runs hw_124 rfl 11 (q := (119, [some (.ref 39), some (.int (σ 39 20)), some (.int v2)], [.int (σ6 39 24), .ref 39], σ6)) (q' := (144, [some (.ref 39), some (.int (σ 39 20)), some (.int v2)], [.int v2], (s2 (s2 σ6 39 24 ((σ6 39 24) ||| 0)) 39 20 ((σ6 39 20) + 1)))) rfl ?_
            refine PW.ifcF (t := 151) (ins_l hw_124 rfl) rfl hc5 ?_
            refine PW.runs hw_124 rfl 2 (q := (147, [some (.ref 39), some (.int (σ 39 20)), some (.int v2)], [], (s2 (s2 σ6 39 24 ((σ6 39 24) ||| 0)) 39 20 ((σ6 39 20) + 1)))) (q' := (163, [some (.ref 39), some (.int (σ 39 20)), some (.int v2)], [.int v2], (s2 (s2 σ6 39 24 ((σ6 39 24) ||| 0)) 39 20 ((σ6 39 20) + 1)))) rfl ?_
            exact PW.iret (ins_l hw_124 rfl) (Or.inl rfl) ⟨_, rfl, h⟩
        · replace h := (if_neg (c_eqF hc4)).mp h
          refine PW.runs hw_124 rfl 4 (q := (85, [some (.ref 39), some (.int (σ 39 20)), some (.int v2)], [], σ6)) (q' := (91, [some (.ref 39), some (.int (σ 39 20)), some (.int v2)], [.int (σ6 39 18), .int 4, .ref 39], σ6)) rfl ?_
          refine PW.callV (b := 39) (vs := [.int 4, .int (σ6 39 18)]) (rest := []) (ins_l hw_124 rfl) rfl rfl rfl (Nat.le_of_ble_eq_true rfl) (Nat.le_of_ble_eq_true rfl) (PW.mono h ?_)
          rintro _ σ9 ⟨v9, rfl, h⟩
          show PW none 124 94 [some (.ref 39), some (.int (σ 39 20)), some (.int v2)] [.int v9] σ9 _
          exact PW.iret (ins_l hw_124 rfl) (Or.inl rfl) ⟨_, rfl, h⟩
  · replace h := (if_neg (c_leF hc1)).mp h
    refine PW.runs hw_124 rfl 4 (q := (26, [some (.ref 39), some (.int (σ 39 20)), some (.int v1)], [], σ1)) (q' := (48, [some (.ref 39), some (.int (σ 39 20)), some (.int v1)], [.int v1], σ1)) rfl ?_
    refine PW.ifc (t := 95) (ins_l hw_124 rfl) rfl (fun hc2 => ?_) (fun hc2 => ?_)
    · replace h := (if_neg (c_neT hc2)).mp h
      refine PW.runs hw_124 rfl 1 (q := (95, [some (.ref 39), some (.int (σ 39 20)), some (.int v1)], [], σ1)) (q' := (96, [some (.ref 39), some (.int (σ 39 20)), some (.int v1)], [.int v1], σ1)) rfl ?_
      refine PW.ifcF (t := 103) (ins_l hw_124 rfl) rfl hc1 ?_
      refine PW.runs hw_124 rfl 7 (q := (99, [some (.ref 39), some (.int (σ 39 20)), some (.int v1)], [], σ1)) (q' := (116, [some (.ref 39), some (.int (σ 39 20)), some (.int v1)], [.int v1, .int (σ1 39 24), .ref 39], σ1)) rfl ?_
      refine PW.ifcF (t := 123) (ins_l hw_124 rfl) rfl hc1 ?_
      refine PW.runs hw_124 rfl 11 (q := (119, [some (.ref 39), some (.int (σ 39 20)), some (.int v1)], [.int (σ1 39 24), .ref 39], σ1)) (q' := (144, [some (.ref 39), some (.int (σ 39 20)), some (.int v1)], [.int v1], (s2 (s2 σ1 39 24 ((σ1 39 24) ||| 0)) 39 20 ((σ1 39 20) + 1)))) rfl ?_
      refine PW.ifcF (t := 151) (ins_l hw_124 rfl) rfl hc1 ?_
      refine PW.runs hw_124 rfl 2 (q := (147, [some (.ref 39), some (.int (σ 39 20)), some (.int v1)], [], (s2 (s2 σ1 39 24 ((σ1 39 24) ||| 0)) 39 20 ((σ1 39 20) + 1)))) (q' := (163, [some (.ref 39), some (.int (σ 39 20)), some (.int v1)], [.int v1], (s2 (s2 σ1 39 24 ((σ1 39 24) ||| 0)) 39 20 ((σ1 39 20) + 1)))) rfl ?_
      exact PW.iret (ins_l hw_124 rfl) (Or.inl rfl) ⟨_, rfl, h⟩
    · replace h := (if_pos (c_neF hc2)).mp h
      refine PW.runs hw_124 rfl 3 (q := (51, [some (.ref 39), some (.int (σ 39 20)), some (.int v1)], [], σ1)) (q' := (56, [some (.ref 39), some (.int (σ 39 20)), some (.int v1)], [.int (σ 39 20), .ref 48], σ1)) rfl ?_
      obtain ⟨hb1, h⟩ := h
      refine PW.iald (n := 12) (ins_l hw_124 rfl) rfl (idx_in hb1.1 hb1.2).1 ?_
      refine PW.runs hw_124 rfl 3 (q := (57, [some (.ref 39), some (.int (σ 39 20)), some (.int v1)], [.int (σ1 48 (Int32.toNatClampNeg (σ 39 20)))], σ1)) (q' := (62, [some (.ref 39), some (.int (σ 39 20)), some (.int v1)], [.int (σ 39 20), .ref 49, .int (σ1 48 (Int32.toNatClampNeg (σ 39 20)))], σ1)) rfl ?_
      refine PW.iald (n := 12) (ins_l hw_124 rfl) rfl (idx_in hb1.1 hb1.2).1 ?_
      refine PW.icm (t := 85) (ins_l hw_124 rfl) rfl (fun hc3 => ?_) (fun hc3 => ?_)
      · replace h := (if_pos (c_eqT hc3)).mp h
        refine PW.runs hw_124 rfl 4 (q := (85, [some (.ref 39), some (.int (σ 39 20)), some (.int v1)], [], σ1)) (q' := (91, [some (.ref 39), some (.int (σ 39 20)), some (.int v1)], [.int (σ1 39 18), .int 4, .ref 39], σ1)) rfl ?_
        refine PW.callV (b := 39) (vs := [.int 4, .int (σ1 39 18)]) (rest := []) (ins_l hw_124 rfl) rfl rfl rfl (Nat.le_of_ble_eq_true rfl) (Nat.le_of_ble_eq_true rfl) (PW.mono h ?_)
        rintro _ σ10 ⟨v10, rfl, h⟩
        show PW none 124 94 [some (.ref 39), some (.int (σ 39 20)), some (.int v1)] [.int v10] σ10 _
        exact PW.iret (ins_l hw_124 rfl) (Or.inl rfl) ⟨_, rfl, h⟩
      · replace h := (if_neg (c_eqF hc3)).mp h
        refine PW.runs hw_124 rfl 4 (q := (66, [some (.ref 39), some (.int (σ 39 20)), some (.int v1)], [], σ1)) (q' := (72, [some (.ref 39), some (.int (σ 39 20)), some (.int v1)], [.int (σ 39 20), .ref 48, .ref 39], σ1)) rfl ?_
        refine PW.iald (n := 12) (ins_l hw_124 rfl) rfl (idx_in hb1.1 hb1.2).1 ?_
        refine PW.runs hw_124 rfl 3 (q := (73, [some (.ref 39), some (.int (σ 39 20)), some (.int v1)], [.int (σ1 48 (Int32.toNatClampNeg (σ 39 20))), .ref 39], σ1)) (q' := (78, [some (.ref 39), some (.int (σ 39 20)), some (.int v1)], [.int (σ 39 20), .ref 49, .int (σ1 48 (Int32.toNatClampNeg (σ 39 20))), .ref 39], σ1)) rfl ?_
        refine PW.iald (n := 12) (ins_l hw_124 rfl) rfl (idx_in hb1.1 hb1.2).1 ?_
        refine PW.callV (b := 39) (vs := [.int (σ1 48 (Int32.toNatClampNeg (σ 39 20))), .int (σ1 49 (Int32.toNatClampNeg (σ 39 20)))]) (rest := []) (ins_l hw_124 rfl) rfl rfl rfl (Nat.le_of_ble_eq_true rfl) (Nat.le_of_ble_eq_true rfl) (PW.mono h ?_)
        rintro _ σ11 ⟨v11, rfl, h⟩
        show PW none 124 82 [some (.ref 39), some (.int (σ 39 20)), some (.int v1)] [.int v11] σ11 _
        refine PW.ifc (t := 95) (ins_l hw_124 rfl) rfl (fun hc4 => ?_) (fun hc4 => ?_)
        · replace h := (if_pos (c_eqT hc4)).mp h
          refine PW.runs hw_124 rfl 1 (q := (95, [some (.ref 39), some (.int (σ 39 20)), some (.int v1)], [], σ11)) (q' := (96, [some (.ref 39), some (.int (σ 39 20)), some (.int v1)], [.int v1], σ11)) rfl ?_
          refine PW.ifcF (t := 103) (ins_l hw_124 rfl) rfl hc1 ?_
          refine PW.runs hw_124 rfl 7 (q := (99, [some (.ref 39), some (.int (σ 39 20)), some (.int v1)], [], σ11)) (q' := (116, [some (.ref 39), some (.int (σ 39 20)), some (.int v1)], [.int v1, .int (σ11 39 24), .ref 39], σ11)) rfl ?_
          refine PW.ifcF (t := 123) (ins_l hw_124 rfl) rfl hc1 ?_
          refine PW.runs hw_124 rfl 11 (q := (119, [some (.ref 39), some (.int (σ 39 20)), some (.int v1)], [.int (σ11 39 24), .ref 39], σ11)) (q' := (144, [some (.ref 39), some (.int (σ 39 20)), some (.int v1)], [.int v1], (s2 (s2 σ11 39 24 ((σ11 39 24) ||| 0)) 39 20 ((σ11 39 20) + 1)))) rfl ?_
          refine PW.ifcF (t := 151) (ins_l hw_124 rfl) rfl hc1 ?_
          refine PW.runs hw_124 rfl 2 (q := (147, [some (.ref 39), some (.int (σ 39 20)), some (.int v1)], [], (s2 (s2 σ11 39 24 ((σ11 39 24) ||| 0)) 39 20 ((σ11 39 20) + 1)))) (q' := (163, [some (.ref 39), some (.int (σ 39 20)), some (.int v1)], [.int v1], (s2 (s2 σ11 39 24 ((σ11 39 24) ||| 0)) 39 20 ((σ11 39 20) + 1)))) rfl ?_
          exact PW.iret (ins_l hw_124 rfl) (Or.inl rfl) ⟨_, rfl, h⟩
        · replace h := (if_neg (c_eqF hc4)).mp h
          refine PW.runs hw_124 rfl 4 (q := (85, [some (.ref 39), some (.int (σ 39 20)), some (.int v1)], [], σ11)) (q' := (91, [some (.ref 39), some (.int (σ 39 20)), some (.int v1)], [.int (σ11 39 18), .int 4, .ref 39], σ11)) rfl ?_
          refine PW.callV (b := 39) (vs := [.int 4, .int (σ11 39 18)]) (rest := []) (ins_l hw_124 rfl) rfl rfl rfl (Nat.le_of_ble_eq_true rfl) (Nat.le_of_ble_eq_true rfl) (PW.mono h ?_)
          rintro _ σ12 ⟨v12, rfl, h⟩
          show PW none 124 94 [some (.ref 39), some (.int (σ 39 20)), some (.int v1)] [.int v12] σ12 _
          exact PW.iret (ins_l hw_124 rfl) (Or.inl rfl) ⟨_, rfl, h⟩
theorem hw_125 : pins.getD 125 [] = pi_125 := rfl
/-! MapDutyModel.takePart.(II)I -/
set_option maxRecDepth 20000 in
theorem w_125 {a : Int32} {b : Int32} {σ : St} {K : Int32 → St → Prop} (h : CI 120 [.ref 39, .int 0, .int 63] σ (fun v1 σ1 => (if v1 ≤ 0 then (if (((σ1 39 17) <<< (b &&& 31)) >>> ((σ1 39 20) &&& 31)) = 0 then ((0 ≤ a.toInt ∧ a.toInt < 5) ∧ K 0 (s2 σ1 52 (Int32.toNatClampNeg a) ((σ1 52 (Int32.toNatClampNeg a)) ||| ((σ1 39 17) <<< (b &&& 31))))) else CI 119 [.ref 39, .int 2, .int (σ1 39 18)] σ1 (fun v2 σ2 => K v2 σ2)) else K v1 σ1))) : CI 125 [.ref 39, .int a, .int b] σ K := by
  show PW none 125 0 [some (.ref 39), some (.int a), some (.int b), none, none] [] σ _
  refine PW.runs hw_125 rfl 3 (q := (0, [some (.ref 39), some (.int a), some (.int b), none, none], [], σ)) (q' := (4, [some (.ref 39), some (.int a), some (.int b), none, none], [.int 63, .int 0, .ref 39], σ)) rfl ?_
  refine PW.callV (b := 39) (vs := [.int 0, .int 63]) (rest := []) (ins_l hw_125 rfl) rfl rfl rfl (Nat.le_of_ble_eq_true rfl) (Nat.le_of_ble_eq_true rfl) (PW.mono h ?_)
  rintro _ σ1 ⟨v1, rfl, h⟩
  show PW none 125 7 [some (.ref 39), some (.int a), some (.int b), none, none] [.int v1] σ1 _
  refine PW.runs hw_125 rfl 2 (q := (7, [some (.ref 39), some (.int a), some (.int b), none, none], [.int v1], σ1)) (q' := (9, [some (.ref 39), some (.int a), some (.int b), some (.int v1), none], [.int v1], σ1)) rfl ?_
  refine PW.ifc (t := 14) (ins_l hw_125 rfl) rfl (fun hc1 => ?_) (fun hc1 => ?_)
  · replace h := (if_pos (c_leT hc1)).mp h
    refine PW.runs hw_125 rfl 9 (q := (14, [some (.ref 39), some (.int a), some (.int b), some (.int v1), none], [], σ1)) (q' := (29, [some (.ref 39), some (.int a), some (.int b), some (.int v1), some (.int ((σ1 39 17) <<< (b &&& 31)))], [.int (((σ1 39 17) <<< (b &&& 31)) >>> ((σ1 39 20) &&& 31))], σ1)) rfl ?_
    refine PW.ifc (t := 42) (ins_l hw_125 rfl) rfl (fun hc2 => ?_) (fun hc2 => ?_)
    · replace h := (if_pos (c_eqT hc2)).mp h
      refine PW.runs hw_125 rfl 4 (q := (42, [some (.ref 39), some (.int a), some (.int b), some (.int v1), some (.int ((σ1 39 17) <<< (b &&& 31)))], [], σ1)) (q' := (48, [some (.ref 39), some (.int a), some (.int b), some (.int v1), some (.int ((σ1 39 17) <<< (b &&& 31)))], [.int a, .ref 52, .int a, .ref 52], σ1)) rfl ?_
      obtain ⟨hb1, h⟩ := h
      refine PW.iald (n := 5) (ins_l hw_125 rfl) rfl (idx_in hb1.1 hb1.2).1 ?_
      refine PW.runs hw_125 rfl 2 (q := (49, [some (.ref 39), some (.int a), some (.int b), some (.int v1), some (.int ((σ1 39 17) <<< (b &&& 31)))], [.int (σ1 52 (Int32.toNatClampNeg a)), .int a, .ref 52], σ1)) (q' := (52, [some (.ref 39), some (.int a), some (.int b), some (.int v1), some (.int ((σ1 39 17) <<< (b &&& 31)))], [.int ((σ1 52 (Int32.toNatClampNeg a)) ||| ((σ1 39 17) <<< (b &&& 31))), .int a, .ref 52], σ1)) rfl ?_
      refine PW.iast (n := 5) (ins_l hw_125 rfl) rfl (idx_in hb1.1 hb1.2).1 ?_
      refine PW.runs hw_125 rfl 1 (q := (53, [some (.ref 39), some (.int a), some (.int b), some (.int v1), some (.int ((σ1 39 17) <<< (b &&& 31)))], [], (s2 σ1 52 (Int32.toNatClampNeg a) ((σ1 52 (Int32.toNatClampNeg a)) ||| ((σ1 39 17) <<< (b &&& 31)))))) (q' := (54, [some (.ref 39), some (.int a), some (.int b), some (.int v1), some (.int ((σ1 39 17) <<< (b &&& 31)))], [.int 0], (s2 σ1 52 (Int32.toNatClampNeg a) ((σ1 52 (Int32.toNatClampNeg a)) ||| ((σ1 39 17) <<< (b &&& 31)))))) rfl ?_
      exact PW.iret (ins_l hw_125 rfl) (Or.inl rfl) ⟨_, rfl, h⟩
    · replace h := (if_neg (c_eqF hc2)).mp h
      refine PW.runs hw_125 rfl 4 (q := (32, [some (.ref 39), some (.int a), some (.int b), some (.int v1), some (.int ((σ1 39 17) <<< (b &&& 31)))], [], σ1)) (q' := (38, [some (.ref 39), some (.int a), some (.int b), some (.int v1), some (.int ((σ1 39 17) <<< (b &&& 31)))], [.int (σ1 39 18), .int 2, .ref 39], σ1)) rfl ?_
      refine PW.callV (b := 39) (vs := [.int 2, .int (σ1 39 18)]) (rest := []) (ins_l hw_125 rfl) rfl rfl rfl (Nat.le_of_ble_eq_true rfl) (Nat.le_of_ble_eq_true rfl) (PW.mono h ?_)
      rintro _ σ2 ⟨v2, rfl, h⟩
      show PW none 125 41 [some (.ref 39), some (.int a), some (.int b), some (.int v1), some (.int ((σ1 39 17) <<< (b &&& 31)))] [.int v2] σ2 _
      exact PW.iret (ins_l hw_125 rfl) (Or.inl rfl) ⟨_, rfl, h⟩
  · replace h := (if_neg (c_leF hc1)).mp h
    refine PW.runs hw_125 rfl 1 (q := (12, [some (.ref 39), some (.int a), some (.int b), some (.int v1), none], [], σ1)) (q' := (13, [some (.ref 39), some (.int a), some (.int b), some (.int v1), none], [.int v1], σ1)) rfl ?_
    exact PW.iret (ins_l hw_125 rfl) (Or.inl rfl) ⟨_, rfl, h⟩
theorem hw_126 : pins.getD 126 [] = pi_126 := rfl
/-! MapDutyModel.takeMap.()I -/
set_option maxRecDepth 20000 in
theorem w_126  {σ : St} {K : Int32 → St → Prop} (h : ((0 ≤ (σ 39 25).toInt ∧ (σ 39 25).toInt < 5) ∧ CI 121 [.ref 39, .ref 51, .int (σ 39 25), .int 0, .int 4] (s2 (s2 σ 39 25 ((σ 39 25) + 1)) 52 (Int32.toNatClampNeg (σ 39 25)) 0) (fun v1 σ1 => (if v1 ≤ 0 then CI 125 [.ref 39, .int (σ 39 25), .int 0] σ1 (fun v2 σ2 => (if v2 ≤ 0 then CI 125 [.ref 39, .int (σ 39 25), .int 6] σ2 (fun v3 σ3 => K v3 σ3) else K v2 σ2)) else K v1 σ1)))) : CI 126 [.ref 39] σ K := by
  show PW none 126 0 [some (.ref 39), none, none] [] σ _
  refine PW.runs hw_126 rfl 13 (q := (0, [some (.ref 39), none, none], [], σ)) (q' := (21, [some (.ref 39), some (.int (σ 39 25)), none], [.int 0, .int (σ 39 25), .ref 52], (s2 σ 39 25 ((σ 39 25) + 1)))) rfl ?_
  obtain ⟨hb1, h⟩ := h
  refine PW.iast (n := 5) (ins_l hw_126 rfl) rfl (idx_in hb1.1 hb1.2).1 ?_
  refine PW.runs hw_126 rfl 6 (q := (22, [some (.ref 39), some (.int (σ 39 25)), none], [], (s2 (s2 σ 39 25 ((σ 39 25) + 1)) 52 (Int32.toNatClampNeg (σ 39 25)) 0))) (q' := (30, [some (.ref 39), some (.int (σ 39 25)), none], [.int 4, .int 0, .int (σ 39 25), .ref 51, .ref 39], (s2 (s2 σ 39 25 ((σ 39 25) + 1)) 52 (Int32.toNatClampNeg (σ 39 25)) 0))) rfl ?_
  refine PW.callV (b := 39) (vs := [.ref 51, .int (σ 39 25), .int 0, .int 4]) (rest := []) (ins_l hw_126 rfl) rfl rfl rfl (Nat.le_of_ble_eq_true rfl) (Nat.le_of_ble_eq_true rfl) (PW.mono h ?_)
  rintro _ σ1 ⟨v1, rfl, h⟩
  show PW none 126 33 [some (.ref 39), some (.int (σ 39 25)), none] [.int v1] σ1 _
  refine PW.runs hw_126 rfl 2 (q := (33, [some (.ref 39), some (.int (σ 39 25)), none], [.int v1], σ1)) (q' := (35, [some (.ref 39), some (.int (σ 39 25)), some (.int v1)], [.int v1], σ1)) rfl ?_
  refine PW.ifc (t := 42) (ins_l hw_126 rfl) rfl (fun hc1 => ?_) (fun hc1 => ?_)
  · replace h := (if_pos (c_leT hc1)).mp h
    refine PW.runs hw_126 rfl 3 (q := (42, [some (.ref 39), some (.int (σ 39 25)), some (.int v1)], [], σ1)) (q' := (45, [some (.ref 39), some (.int (σ 39 25)), some (.int v1)], [.int 0, .int (σ 39 25), .ref 39], σ1)) rfl ?_
    refine PW.callV (b := 39) (vs := [.int (σ 39 25), .int 0]) (rest := []) (ins_l hw_126 rfl) rfl rfl rfl (Nat.le_of_ble_eq_true rfl) (Nat.le_of_ble_eq_true rfl) (PW.mono h ?_)
    rintro _ σ2 ⟨v2, rfl, h⟩
    show PW none 126 48 [some (.ref 39), some (.int (σ 39 25)), some (.int v1)] [.int v2] σ2 _
    refine PW.runs hw_126 rfl 2 (q := (48, [some (.ref 39), some (.int (σ 39 25)), some (.int v1)], [.int v2], σ2)) (q' := (50, [some (.ref 39), some (.int (σ 39 25)), some (.int v2)], [.int v2], σ2)) rfl ?_
    refine PW.ifc (t := 57) (ins_l hw_126 rfl) rfl (fun hc2 => ?_) (fun hc2 => ?_)
    · replace h := (if_pos (c_leT hc2)).mp h
      refine PW.runs hw_126 rfl 3 (q := (57, [some (.ref 39), some (.int (σ 39 25)), some (.int v2)], [], σ2)) (q' := (61, [some (.ref 39), some (.int (σ 39 25)), some (.int v2)], [.int 6, .int (σ 39 25), .ref 39], σ2)) rfl ?_
      refine PW.callV (b := 39) (vs := [.int (σ 39 25), .int 6]) (rest := []) (ins_l hw_126 rfl) rfl rfl rfl (Nat.le_of_ble_eq_true rfl) (Nat.le_of_ble_eq_true rfl) (PW.mono h ?_)
      rintro _ σ3 ⟨v3, rfl, h⟩
      show PW none 126 64 [some (.ref 39), some (.int (σ 39 25)), some (.int v2)] [.int v3] σ3 _
      exact PW.iret (ins_l hw_126 rfl) (Or.inl rfl) ⟨_, rfl, h⟩
    · replace h := (if_neg (c_leF hc2)).mp h
      refine PW.runs hw_126 rfl 2 (q := (53, [some (.ref 39), some (.int (σ 39 25)), some (.int v2)], [], σ2)) (q' := (64, [some (.ref 39), some (.int (σ 39 25)), some (.int v2)], [.int v2], σ2)) rfl ?_
      exact PW.iret (ins_l hw_126 rfl) (Or.inl rfl) ⟨_, rfl, h⟩
  · replace h := (if_neg (c_leF hc1)).mp h
    refine PW.runs hw_126 rfl 4 (q := (38, [some (.ref 39), some (.int (σ 39 25)), some (.int v1)], [], σ1)) (q' := (50, [some (.ref 39), some (.int (σ 39 25)), some (.int v1)], [.int v1], σ1)) rfl ?_
    refine PW.ifcF (t := 57) (ins_l hw_126 rfl) rfl hc1 ?_
    refine PW.runs hw_126 rfl 2 (q := (53, [some (.ref 39), some (.int (σ 39 25)), some (.int v1)], [], σ1)) (q' := (64, [some (.ref 39), some (.int (σ 39 25)), some (.int v1)], [.int v1], σ1)) rfl ?_
    exact PW.iret (ins_l hw_126 rfl) (Or.inl rfl) ⟨_, rfl, h⟩
theorem hw_127 : pins.getD 127 [] = pi_127 := rfl
/-! MapDutyModel.takeInspector.()I -/
set_option maxRecDepth 20000 in
theorem w_127  {σ : St} {K : Int32 → St → Prop} (h : CI 121 [.ref 39, .ref 53, .int (((σ 39 28) + 1) - 1), .int 1, .int 12] (s2 σ 39 28 ((σ 39 28) + 1)) (fun v1 σ1 => K v1 σ1)) : CI 127 [.ref 39] σ K := by
  show PW none 127 0 [some (.ref 39)] [] σ _
  refine PW.runs hw_127 rfl 15 (q := (0, [some (.ref 39)], [], σ)) (q' := (24, [some (.ref 39)], [.int 12, .int 1, .int (((σ 39 28) + 1) - 1), .ref 53, .ref 39], (s2 σ 39 28 ((σ 39 28) + 1)))) rfl ?_
  refine PW.callV (b := 39) (vs := [.ref 53, .int (((σ 39 28) + 1) - 1), .int 1, .int 12]) (rest := []) (ins_l hw_127 rfl) rfl rfl rfl (Nat.le_of_ble_eq_true rfl) (Nat.le_of_ble_eq_true rfl) (PW.mono h ?_)
  rintro _ σ1 ⟨v1, rfl, h⟩
  show PW none 127 27 [some (.ref 39)] [.int v1] σ1 _
  exact PW.iret (ins_l hw_127 rfl) (Or.inl rfl) ⟨_, rfl, h⟩
theorem hw_128 : pins.getD 128 [] = pi_128 := rfl
/-! MapDutyModel.isFull.(I)Z -/
set_option maxRecDepth 20000 in
theorem w_128 {a : Int32} {σ : St} {K : Int32 → St → Prop} (h : (if a = 0 then (if (σ 39 19) ≤ 0 then K 0 σ else K 1 σ) else (if a = 1 then (if (σ 39 20) = 12 then K 1 σ else K 0 σ) else (if a = 2 then (if (σ 39 25) = 5 then K 1 σ else K 0 σ) else (if (σ 39 28) = 4 then K 1 σ else K 0 σ))))) : CI 128 [.ref 39, .int a] σ K := by
  show PW none 128 0 [some (.ref 39), some (.int a)] [] σ _
  refine PW.runs hw_128 rfl 1 (q := (0, [some (.ref 39), some (.int a)], [], σ)) (q' := (1, [some (.ref 39), some (.int a)], [.int a], σ)) rfl ?_
  by_cases c0 : a = 0
  · replace h := (if_pos c0).mp h
    refine PW.tswK (k := 0) (t := 28) (ins_l hw_128 rfl) c0 (by decide) (by decide) rfl rfl ?_
    refine PW.runs hw_128 rfl 2 (q := (28, [some (.ref 39), some (.int a)], [], σ)) (q' := (32, [some (.ref 39), some (.int a)], [.int (σ 39 19)], σ)) rfl ?_
    refine PW.ifc (t := 39) (ins_l hw_128 rfl) rfl (fun hc1 => ?_) (fun hc1 => ?_)
    · replace h := (if_pos (c_leT hc1)).mp h
      refine PW.runs hw_128 rfl 1 (q := (39, [some (.ref 39), some (.int a)], [], σ)) (q' := (40, [some (.ref 39), some (.int a)], [.int 0], σ)) rfl ?_
      exact PW.iret (ins_l hw_128 rfl) (Or.inr ⟨rfl, by decide⟩) ⟨_, rfl, h⟩
    · replace h := (if_neg (c_leF hc1)).mp h
      refine PW.runs hw_128 rfl 2 (q := (35, [some (.ref 39), some (.int a)], [], σ)) (q' := (40, [some (.ref 39), some (.int a)], [.int 1], σ)) rfl ?_
      exact PW.iret (ins_l hw_128 rfl) (Or.inr ⟨rfl, by decide⟩) ⟨_, rfl, h⟩
  replace h := (if_neg c0).mp h
  by_cases c1 : a = 1
  · replace h := (if_pos c1).mp h
    refine PW.tswK (k := 1) (t := 41) (ins_l hw_128 rfl) c1 (by decide) (by decide) rfl rfl ?_
    refine PW.runs hw_128 rfl 3 (q := (41, [some (.ref 39), some (.int a)], [], σ)) (q' := (47, [some (.ref 39), some (.int a)], [.int 12, .int (σ 39 20)], σ)) rfl ?_
    refine PW.icm (t := 54) (ins_l hw_128 rfl) rfl (fun hc1 => ?_) (fun hc1 => ?_)
    · replace h := (if_neg (c_neT hc1)).mp h
      refine PW.runs hw_128 rfl 1 (q := (54, [some (.ref 39), some (.int a)], [], σ)) (q' := (55, [some (.ref 39), some (.int a)], [.int 0], σ)) rfl ?_
      exact PW.iret (ins_l hw_128 rfl) (Or.inr ⟨rfl, by decide⟩) ⟨_, rfl, h⟩
    · replace h := (if_pos (c_neF hc1)).mp h
      refine PW.runs hw_128 rfl 2 (q := (50, [some (.ref 39), some (.int a)], [], σ)) (q' := (55, [some (.ref 39), some (.int a)], [.int 1], σ)) rfl ?_
      exact PW.iret (ins_l hw_128 rfl) (Or.inr ⟨rfl, by decide⟩) ⟨_, rfl, h⟩
  replace h := (if_neg c1).mp h
  by_cases c2 : a = 2
  · replace h := (if_pos c2).mp h
    refine PW.tswK (k := 2) (t := 56) (ins_l hw_128 rfl) c2 (by decide) (by decide) rfl rfl ?_
    refine PW.runs hw_128 rfl 3 (q := (56, [some (.ref 39), some (.int a)], [], σ)) (q' := (61, [some (.ref 39), some (.int a)], [.int 5, .int (σ 39 25)], σ)) rfl ?_
    refine PW.icm (t := 68) (ins_l hw_128 rfl) rfl (fun hc1 => ?_) (fun hc1 => ?_)
    · replace h := (if_neg (c_neT hc1)).mp h
      refine PW.runs hw_128 rfl 1 (q := (68, [some (.ref 39), some (.int a)], [], σ)) (q' := (69, [some (.ref 39), some (.int a)], [.int 0], σ)) rfl ?_
      exact PW.iret (ins_l hw_128 rfl) (Or.inr ⟨rfl, by decide⟩) ⟨_, rfl, h⟩
    · replace h := (if_pos (c_neF hc1)).mp h
      refine PW.runs hw_128 rfl 2 (q := (64, [some (.ref 39), some (.int a)], [], σ)) (q' := (69, [some (.ref 39), some (.int a)], [.int 1], σ)) rfl ?_
      exact PW.iret (ins_l hw_128 rfl) (Or.inr ⟨rfl, by decide⟩) ⟨_, rfl, h⟩
  replace h := (if_neg c2).mp h
  have hD : PI 128 70 [some (.ref 39), some (.int a)] [] σ K := by
    refine PW.runs hw_128 rfl 3 (q := (70, [some (.ref 39), some (.int a)], [], σ)) (q' := (75, [some (.ref 39), some (.int a)], [.int 4, .int (σ 39 28)], σ)) rfl ?_
    refine PW.icm (t := 82) (ins_l hw_128 rfl) rfl (fun hc1 => ?_) (fun hc1 => ?_)
    · replace h := (if_neg (c_neT hc1)).mp h
      refine PW.runs hw_128 rfl 1 (q := (82, [some (.ref 39), some (.int a)], [], σ)) (q' := (83, [some (.ref 39), some (.int a)], [.int 0], σ)) rfl ?_
      exact PW.iret (ins_l hw_128 rfl) (Or.inr ⟨rfl, by decide⟩) ⟨_, rfl, h⟩
    · replace h := (if_pos (c_neF hc1)).mp h
      refine PW.runs hw_128 rfl 2 (q := (78, [some (.ref 39), some (.int a)], [], σ)) (q' := (83, [some (.ref 39), some (.int a)], [.int 1], σ)) rfl ?_
      exact PW.iret (ins_l hw_128 rfl) (Or.inr ⟨rfl, by decide⟩) ⟨_, rfl, h⟩
  refine PW.tswD (t := 70) (ins_l hw_128 rfl) ?_ rfl hD
  have zc0 := tne c0 (k := 0) rfl
  have zc1 := tne c1 (k := 1) rfl
  have zc2 := tne c2 (k := 2) rfl
  omega
theorem hw_129 : pins.getD 129 [] = pi_129 := rfl
/-! MapDutyModel.takeClause.()I -/
set_option maxRecDepth 20000 in
theorem w_129  {σ : St} {K : Int32 → St → Prop} (h : CI 118 [.ref 39] σ (fun v1 σ1 => (if v1 = 110 then CI 128 [.ref 39, .int 0] σ1 (fun v22 σ22 => (if v22 = 0 then CI 122 [.ref 39] (s2 σ22 39 16 ((σ22 39 16) + 1)) (fun v23 σ23 => (if v23 = 0 then CI 118 [.ref 39] σ23 (fun v24 σ24 => (if v24 = 59 then K v23 (s2 σ24 39 16 ((σ24 39 16) + 1)) else CI 119 [.ref 39, .int 1, .int (σ24 39 16)] σ24 (fun v25 σ25 => K v25 σ25))) else K v23 (s2 σ23 39 16 ((σ23 39 16) + 1)))) else CI 119 [.ref 39, .int 3, .int (σ22 39 16)] σ22 (fun v26 σ26 => K v26 σ26))) else (if v1 = 108 then (if (σ1 39 19) = 0 then CI 119 [.ref 39, .int 1, .int (σ1 39 16)] σ1 (fun v15 σ15 => K v15 σ15) else (if (σ1 39 25) ≤ 0 then CI 128 [.ref 39, .int 1] σ1 (fun v16 σ16 => (if v16 = 0 then CI 124 [.ref 39] (s2 σ16 39 16 ((σ16 39 16) + 1)) (fun v17 σ17 => (if v17 = 0 then CI 118 [.ref 39] σ17 (fun v18 σ18 => (if v18 = 59 then K v17 (s2 σ18 39 16 ((σ18 39 16) + 1)) else CI 119 [.ref 39, .int 1, .int (σ18 39 16)] σ18 (fun v19 σ19 => K v19 σ19))) else K v17 (s2 σ17 39 16 ((σ17 39 16) + 1)))) else CI 119 [.ref 39, .int 3, .int (σ16 39 16)] σ16 (fun v20 σ20 => K v20 σ20))) else CI 119 [.ref 39, .int 1, .int (σ1 39 16)] σ1 (fun v21 σ21 => K v21 σ21))) else (if v1 = 109 then (if (σ1 39 19) = 0 then CI 119 [.ref 39, .int 1, .int (σ1 39 16)] σ1 (fun v9 σ9 => K v9 σ9) else CI 128 [.ref 39, .int 2] σ1 (fun v10 σ10 => (if v10 = 0 then CI 126 [.ref 39] (s2 σ10 39 16 ((σ10 39 16) + 1)) (fun v11 σ11 => (if v11 = 0 then CI 118 [.ref 39] σ11 (fun v12 σ12 => (if v12 = 59 then K v11 (s2 σ12 39 16 ((σ12 39 16) + 1)) else CI 119 [.ref 39, .int 1, .int (σ12 39 16)] σ12 (fun v13 σ13 => K v13 σ13))) else K v11 (s2 σ11 39 16 ((σ11 39 16) + 1)))) else CI 119 [.ref 39, .int 3, .int (σ10 39 16)] σ10 (fun v14 σ14 => K v14 σ14)))) else (if v1 = 105 then (if (σ1 39 19) = 0 then CI 119 [.ref 39, .int 1, .int (σ1 39 16)] σ1 (fun v3 σ3 => K v3 σ3) else CI 128 [.ref 39, .int 3] σ1 (fun v4 σ4 => (if v4 = 0 then CI 127 [.ref 39] (s2 σ4 39 16 ((σ4 39 16) + 1)) (fun v5 σ5 => (if v5 = 0 then CI 118 [.ref 39] σ5 (fun v6 σ6 => (if v6 = 59 then K v5 (s2 σ6 39 16 ((σ6 39 16) + 1)) else CI 119 [.ref 39, .int 1, .int (σ6 39 16)] σ6 (fun v7 σ7 => K v7 σ7))) else K v5 (s2 σ5 39 16 ((σ5 39 16) + 1)))) else CI 119 [.ref 39, .int 3, .int (σ4 39 16)] σ4 (fun v8 σ8 => K v8 σ8)))) else CI 119 [.ref 39, .int 1, .int (σ1 39 16)] σ1 (fun v2 σ2 => K v2 σ2))))))) : CI 129 [.ref 39] σ K := by
  show PW none 129 0 [some (.ref 39), none, none, none] [] σ _
  refine PW.runs hw_129 rfl 1 (q := (0, [some (.ref 39), none, none, none], [], σ)) (q' := (1, [some (.ref 39), none, none, none], [.ref 39], σ)) rfl ?_
  refine PW.callV (b := 39) (vs := []) (rest := []) (ins_l hw_129 rfl) rfl rfl rfl (Nat.le_of_ble_eq_true rfl) (Nat.le_of_ble_eq_true rfl) (PW.mono h ?_)
  rintro _ σ1 ⟨v1, rfl, h⟩
  show PW none 129 4 [some (.ref 39), none, none, none] [.int v1] σ1 _
  refine PW.runs hw_129 rfl 3 (q := (4, [some (.ref 39), none, none, none], [.int v1], σ1)) (q' := (8, [some (.ref 39), some (.int v1), none, none], [.int 110, .int v1], σ1)) rfl ?_
  refine PW.icm (t := 15) (ins_l hw_129 rfl) rfl (fun hc1 => ?_) (fun hc1 => ?_)
  · replace h := (if_neg (c_neT hc1)).mp h
    refine PW.runs hw_129 rfl 2 (q := (15, [some (.ref 39), some (.int v1), none, none], [], σ1)) (q' := (18, [some (.ref 39), some (.int v1), none, none], [.int 108, .int v1], σ1)) rfl ?_
    refine PW.icm (t := 25) (ins_l hw_129 rfl) rfl (fun hc2 => ?_) (fun hc2 => ?_)
    · replace h := (if_neg (c_neT hc2)).mp h
      refine PW.runs hw_129 rfl 2 (q := (25, [some (.ref 39), some (.int v1), none, none], [], σ1)) (q' := (28, [some (.ref 39), some (.int v1), none, none], [.int 109, .int v1], σ1)) rfl ?_
      refine PW.icm (t := 35) (ins_l hw_129 rfl) rfl (fun hc3 => ?_) (fun hc3 => ?_)
      · replace h := (if_neg (c_neT hc3)).mp h
        refine PW.runs hw_129 rfl 2 (q := (35, [some (.ref 39), some (.int v1), none, none], [], σ1)) (q' := (38, [some (.ref 39), some (.int v1), none, none], [.int 105, .int v1], σ1)) rfl ?_
        refine PW.icm (t := 45) (ins_l hw_129 rfl) rfl (fun hc4 => ?_) (fun hc4 => ?_)
        · replace h := (if_neg (c_neT hc4)).mp h
          refine PW.runs hw_129 rfl 3 (q := (45, [some (.ref 39), some (.int v1), none, none], [], σ1)) (q' := (48, [some (.ref 39), some (.int v1), some (.int (-1)), none], [.int (-1)], σ1)) rfl ?_
          refine PW.ifcT (t := 74) (ins_l hw_129 rfl) rfl (by decide) ?_
          refine PW.runs hw_129 rfl 4 (q := (74, [some (.ref 39), some (.int v1), some (.int (-1)), none], [], σ1)) (q' := (80, [some (.ref 39), some (.int v1), some (.int (-1)), none], [.int (σ1 39 16), .int 1, .ref 39], σ1)) rfl ?_
          refine PW.callV (b := 39) (vs := [.int 1, .int (σ1 39 16)]) (rest := []) (ins_l hw_129 rfl) rfl rfl rfl (Nat.le_of_ble_eq_true rfl) (Nat.le_of_ble_eq_true rfl) (PW.mono h ?_)
          rintro _ σ2 ⟨v2, rfl, h⟩
          show PW none 129 83 [some (.ref 39), some (.int v1), some (.int (-1)), none] [.int v2] σ2 _
          exact PW.iret (ins_l hw_129 rfl) (Or.inl rfl) ⟨_, rfl, h⟩
        · replace h := (if_pos (c_neF hc4)).mp h
          refine PW.runs hw_129 rfl 4 (q := (41, [some (.ref 39), some (.int v1), none, none], [], σ1)) (q' := (48, [some (.ref 39), some (.int v1), some (.int 3), none], [.int 3], σ1)) rfl ?_
          refine PW.ifcF (t := 74) (ins_l hw_129 rfl) rfl (by decide) ?_
          refine PW.runs hw_129 rfl 1 (q := (51, [some (.ref 39), some (.int v1), some (.int 3), none], [], σ1)) (q' := (52, [some (.ref 39), some (.int v1), some (.int 3), none], [.int 3], σ1)) rfl ?_
          refine PW.ifcF (t := 62) (ins_l hw_129 rfl) rfl (by decide) ?_
          refine PW.runs hw_129 rfl 2 (q := (55, [some (.ref 39), some (.int v1), some (.int 3), none], [], σ1)) (q' := (59, [some (.ref 39), some (.int v1), some (.int 3), none], [.int (σ1 39 19)], σ1)) rfl ?_
          refine PW.ifc (t := 74) (ins_l hw_129 rfl) rfl (fun hc5 => ?_) (fun hc5 => ?_)
          · replace h := (if_pos (c_eqT hc5)).mp h
            refine PW.runs hw_129 rfl 4 (q := (74, [some (.ref 39), some (.int v1), some (.int 3), none], [], σ1)) (q' := (80, [some (.ref 39), some (.int v1), some (.int 3), none], [.int (σ1 39 16), .int 1, .ref 39], σ1)) rfl ?_
            refine PW.callV (b := 39) (vs := [.int 1, .int (σ1 39 16)]) (rest := []) (ins_l hw_129 rfl) rfl rfl rfl (Nat.le_of_ble_eq_true rfl) (Nat.le_of_ble_eq_true rfl) (PW.mono h ?_)
            rintro _ σ3 ⟨v3, rfl, h⟩
            show PW none 129 83 [some (.ref 39), some (.int v1), some (.int 3), none] [.int v3] σ3 _
            exact PW.iret (ins_l hw_129 rfl) (Or.inl rfl) ⟨_, rfl, h⟩
          · replace h := (if_neg (c_eqF hc5)).mp h
            refine PW.runs hw_129 rfl 2 (q := (62, [some (.ref 39), some (.int v1), some (.int 3), none], [], σ1)) (q' := (64, [some (.ref 39), some (.int v1), some (.int 3), none], [.int 1, .int 3], σ1)) rfl ?_
            refine PW.icmT (t := 84) (ins_l hw_129 rfl) rfl (by decide) ?_
            refine PW.runs hw_129 rfl 2 (q := (84, [some (.ref 39), some (.int v1), some (.int 3), none], [], σ1)) (q' := (86, [some (.ref 39), some (.int v1), some (.int 3), none], [.int 3, .ref 39], σ1)) rfl ?_
            refine PW.callV (b := 39) (vs := [.int 3]) (rest := []) (ins_l hw_129 rfl) rfl rfl rfl (Nat.le_of_ble_eq_true rfl) (Nat.le_of_ble_eq_true rfl) (PW.mono h ?_)
            rintro _ σ4 ⟨v4, rfl, h⟩
            show PW none 129 89 [some (.ref 39), some (.int v1), some (.int 3), none] [.int v4] σ4 _
            refine PW.ifc (t := 102) (ins_l hw_129 rfl) rfl (fun hc6 => ?_) (fun hc6 => ?_)
            · replace h := (if_pos (c_eqT hc6)).mp h
              refine PW.runs hw_129 rfl 7 (q := (102, [some (.ref 39), some (.int v1), some (.int 3), none], [], σ4)) (q' := (113, [some (.ref 39), some (.int v1), some (.int 3), none], [.int 3], (s2 σ4 39 16 ((σ4 39 16) + 1)))) rfl ?_
              refine PW.ifcT (t := 123) (ins_l hw_129 rfl) rfl (by decide) ?_
              refine PW.runs hw_129 rfl 2 (q := (123, [some (.ref 39), some (.int v1), some (.int 3), none], [], (s2 σ4 39 16 ((σ4 39 16) + 1)))) (q' := (125, [some (.ref 39), some (.int v1), some (.int 3), none], [.int 1, .int 3], (s2 σ4 39 16 ((σ4 39 16) + 1)))) rfl ?_
              refine PW.icmT (t := 135) (ins_l hw_129 rfl) rfl (by decide) ?_
              refine PW.runs hw_129 rfl 2 (q := (135, [some (.ref 39), some (.int v1), some (.int 3), none], [], (s2 σ4 39 16 ((σ4 39 16) + 1)))) (q' := (137, [some (.ref 39), some (.int v1), some (.int 3), none], [.int 2, .int 3], (s2 σ4 39 16 ((σ4 39 16) + 1)))) rfl ?_
              refine PW.icmT (t := 147) (ins_l hw_129 rfl) rfl (by decide) ?_
              refine PW.runs hw_129 rfl 1 (q := (147, [some (.ref 39), some (.int v1), some (.int 3), none], [], (s2 σ4 39 16 ((σ4 39 16) + 1)))) (q' := (148, [some (.ref 39), some (.int v1), some (.int 3), none], [.ref 39], (s2 σ4 39 16 ((σ4 39 16) + 1)))) rfl ?_
              refine PW.callV (b := 39) (vs := []) (rest := []) (ins_l hw_129 rfl) rfl rfl rfl (Nat.le_of_ble_eq_true rfl) (Nat.le_of_ble_eq_true rfl) (PW.mono h ?_)
              rintro _ σ5 ⟨v5, rfl, h⟩
              show PW none 129 151 [some (.ref 39), some (.int v1), some (.int 3), none] [.int v5] σ5 _
              refine PW.runs hw_129 rfl 2 (q := (151, [some (.ref 39), some (.int v1), some (.int 3), none], [.int v5], σ5)) (q' := (153, [some (.ref 39), some (.int v1), some (.int 3), some (.int v5)], [.int v5], σ5)) rfl ?_
              refine PW.ifc (t := 175) (ins_l hw_129 rfl) rfl (fun hc7 => ?_) (fun hc7 => ?_)
              · replace h := (if_neg (c_neT hc7)).mp h
                refine PW.runs hw_129 rfl 7 (q := (175, [some (.ref 39), some (.int v1), some (.int 3), some (.int v5)], [], σ5)) (q' := (186, [some (.ref 39), some (.int v1), some (.int 3), some (.int v5)], [.int v5], (s2 σ5 39 16 ((σ5 39 16) + 1)))) rfl ?_
                exact PW.iret (ins_l hw_129 rfl) (Or.inl rfl) ⟨_, rfl, h⟩
              · replace h := (if_pos (c_neF hc7)).mp h
                refine PW.runs hw_129 rfl 1 (q := (156, [some (.ref 39), some (.int v1), some (.int 3), some (.int v5)], [], σ5)) (q' := (157, [some (.ref 39), some (.int v1), some (.int 3), some (.int v5)], [.ref 39], σ5)) rfl ?_
                refine PW.callV (b := 39) (vs := []) (rest := []) (ins_l hw_129 rfl) rfl rfl rfl (Nat.le_of_ble_eq_true rfl) (Nat.le_of_ble_eq_true rfl) (PW.mono h ?_)
                rintro _ σ6 ⟨v6, rfl, h⟩
                show PW none 129 160 [some (.ref 39), some (.int v1), some (.int 3), some (.int v5)] [.int v6] σ6 _
                refine PW.runs hw_129 rfl 1 (q := (160, [some (.ref 39), some (.int v1), some (.int 3), some (.int v5)], [.int v6], σ6)) (q' := (162, [some (.ref 39), some (.int v1), some (.int 3), some (.int v5)], [.int 59, .int v6], σ6)) rfl ?_
                refine PW.icm (t := 175) (ins_l hw_129 rfl) rfl (fun hc8 => ?_) (fun hc8 => ?_)
                · replace h := (if_pos (c_eqT hc8)).mp h
                  refine PW.runs hw_129 rfl 7 (q := (175, [some (.ref 39), some (.int v1), some (.int 3), some (.int v5)], [], σ6)) (q' := (186, [some (.ref 39), some (.int v1), some (.int 3), some (.int v5)], [.int v5], (s2 σ6 39 16 ((σ6 39 16) + 1)))) rfl ?_
                  exact PW.iret (ins_l hw_129 rfl) (Or.inl rfl) ⟨_, rfl, h⟩
                · replace h := (if_neg (c_eqF hc8)).mp h
                  refine PW.runs hw_129 rfl 4 (q := (165, [some (.ref 39), some (.int v1), some (.int 3), some (.int v5)], [], σ6)) (q' := (171, [some (.ref 39), some (.int v1), some (.int 3), some (.int v5)], [.int (σ6 39 16), .int 1, .ref 39], σ6)) rfl ?_
                  refine PW.callV (b := 39) (vs := [.int 1, .int (σ6 39 16)]) (rest := []) (ins_l hw_129 rfl) rfl rfl rfl (Nat.le_of_ble_eq_true rfl) (Nat.le_of_ble_eq_true rfl) (PW.mono h ?_)
                  rintro _ σ7 ⟨v7, rfl, h⟩
                  show PW none 129 174 [some (.ref 39), some (.int v1), some (.int 3), some (.int v5)] [.int v7] σ7 _
                  exact PW.iret (ins_l hw_129 rfl) (Or.inl rfl) ⟨_, rfl, h⟩
            · replace h := (if_neg (c_eqF hc6)).mp h
              refine PW.runs hw_129 rfl 4 (q := (92, [some (.ref 39), some (.int v1), some (.int 3), none], [], σ4)) (q' := (98, [some (.ref 39), some (.int v1), some (.int 3), none], [.int (σ4 39 16), .int 3, .ref 39], σ4)) rfl ?_
              refine PW.callV (b := 39) (vs := [.int 3, .int (σ4 39 16)]) (rest := []) (ins_l hw_129 rfl) rfl rfl rfl (Nat.le_of_ble_eq_true rfl) (Nat.le_of_ble_eq_true rfl) (PW.mono h ?_)
              rintro _ σ8 ⟨v8, rfl, h⟩
              show PW none 129 101 [some (.ref 39), some (.int v1), some (.int 3), none] [.int v8] σ8 _
              exact PW.iret (ins_l hw_129 rfl) (Or.inl rfl) ⟨_, rfl, h⟩
      · replace h := (if_pos (c_neF hc3)).mp h
        refine PW.runs hw_129 rfl 4 (q := (31, [some (.ref 39), some (.int v1), none, none], [], σ1)) (q' := (48, [some (.ref 39), some (.int v1), some (.int 2), none], [.int 2], σ1)) rfl ?_
        refine PW.ifcF (t := 74) (ins_l hw_129 rfl) rfl (by decide) ?_
        refine PW.runs hw_129 rfl 1 (q := (51, [some (.ref 39), some (.int v1), some (.int 2), none], [], σ1)) (q' := (52, [some (.ref 39), some (.int v1), some (.int 2), none], [.int 2], σ1)) rfl ?_
        refine PW.ifcF (t := 62) (ins_l hw_129 rfl) rfl (by decide) ?_
        refine PW.runs hw_129 rfl 2 (q := (55, [some (.ref 39), some (.int v1), some (.int 2), none], [], σ1)) (q' := (59, [some (.ref 39), some (.int v1), some (.int 2), none], [.int (σ1 39 19)], σ1)) rfl ?_
        refine PW.ifc (t := 74) (ins_l hw_129 rfl) rfl (fun hc4 => ?_) (fun hc4 => ?_)
        · replace h := (if_pos (c_eqT hc4)).mp h
          refine PW.runs hw_129 rfl 4 (q := (74, [some (.ref 39), some (.int v1), some (.int 2), none], [], σ1)) (q' := (80, [some (.ref 39), some (.int v1), some (.int 2), none], [.int (σ1 39 16), .int 1, .ref 39], σ1)) rfl ?_
          refine PW.callV (b := 39) (vs := [.int 1, .int (σ1 39 16)]) (rest := []) (ins_l hw_129 rfl) rfl rfl rfl (Nat.le_of_ble_eq_true rfl) (Nat.le_of_ble_eq_true rfl) (PW.mono h ?_)
          rintro _ σ9 ⟨v9, rfl, h⟩
          show PW none 129 83 [some (.ref 39), some (.int v1), some (.int 2), none] [.int v9] σ9 _
          exact PW.iret (ins_l hw_129 rfl) (Or.inl rfl) ⟨_, rfl, h⟩
        · replace h := (if_neg (c_eqF hc4)).mp h
          refine PW.runs hw_129 rfl 2 (q := (62, [some (.ref 39), some (.int v1), some (.int 2), none], [], σ1)) (q' := (64, [some (.ref 39), some (.int v1), some (.int 2), none], [.int 1, .int 2], σ1)) rfl ?_
          refine PW.icmT (t := 84) (ins_l hw_129 rfl) rfl (by decide) ?_
          refine PW.runs hw_129 rfl 2 (q := (84, [some (.ref 39), some (.int v1), some (.int 2), none], [], σ1)) (q' := (86, [some (.ref 39), some (.int v1), some (.int 2), none], [.int 2, .ref 39], σ1)) rfl ?_
          refine PW.callV (b := 39) (vs := [.int 2]) (rest := []) (ins_l hw_129 rfl) rfl rfl rfl (Nat.le_of_ble_eq_true rfl) (Nat.le_of_ble_eq_true rfl) (PW.mono h ?_)
          rintro _ σ10 ⟨v10, rfl, h⟩
          show PW none 129 89 [some (.ref 39), some (.int v1), some (.int 2), none] [.int v10] σ10 _
          refine PW.ifc (t := 102) (ins_l hw_129 rfl) rfl (fun hc5 => ?_) (fun hc5 => ?_)
          · replace h := (if_pos (c_eqT hc5)).mp h
            refine PW.runs hw_129 rfl 7 (q := (102, [some (.ref 39), some (.int v1), some (.int 2), none], [], σ10)) (q' := (113, [some (.ref 39), some (.int v1), some (.int 2), none], [.int 2], (s2 σ10 39 16 ((σ10 39 16) + 1)))) rfl ?_
            refine PW.ifcT (t := 123) (ins_l hw_129 rfl) rfl (by decide) ?_
            refine PW.runs hw_129 rfl 2 (q := (123, [some (.ref 39), some (.int v1), some (.int 2), none], [], (s2 σ10 39 16 ((σ10 39 16) + 1)))) (q' := (125, [some (.ref 39), some (.int v1), some (.int 2), none], [.int 1, .int 2], (s2 σ10 39 16 ((σ10 39 16) + 1)))) rfl ?_
            refine PW.icmT (t := 135) (ins_l hw_129 rfl) rfl (by decide) ?_
            refine PW.runs hw_129 rfl 2 (q := (135, [some (.ref 39), some (.int v1), some (.int 2), none], [], (s2 σ10 39 16 ((σ10 39 16) + 1)))) (q' := (137, [some (.ref 39), some (.int v1), some (.int 2), none], [.int 2, .int 2], (s2 σ10 39 16 ((σ10 39 16) + 1)))) rfl ?_
            refine PW.icmF (t := 147) (ins_l hw_129 rfl) rfl (by decide) ?_
            refine PW.runs hw_129 rfl 1 (q := (140, [some (.ref 39), some (.int v1), some (.int 2), none], [], (s2 σ10 39 16 ((σ10 39 16) + 1)))) (q' := (141, [some (.ref 39), some (.int v1), some (.int 2), none], [.ref 39], (s2 σ10 39 16 ((σ10 39 16) + 1)))) rfl ?_
            refine PW.callV (b := 39) (vs := []) (rest := []) (ins_l hw_129 rfl) rfl rfl rfl (Nat.le_of_ble_eq_true rfl) (Nat.le_of_ble_eq_true rfl) (PW.mono h ?_)
            rintro _ σ11 ⟨v11, rfl, h⟩
            show PW none 129 144 [some (.ref 39), some (.int v1), some (.int 2), none] [.int v11] σ11 _
            refine PW.runs hw_129 rfl 3 (q := (144, [some (.ref 39), some (.int v1), some (.int 2), none], [.int v11], σ11)) (q' := (153, [some (.ref 39), some (.int v1), some (.int 2), some (.int v11)], [.int v11], σ11)) rfl ?_
            refine PW.ifc (t := 175) (ins_l hw_129 rfl) rfl (fun hc6 => ?_) (fun hc6 => ?_)
            · replace h := (if_neg (c_neT hc6)).mp h
              refine PW.runs hw_129 rfl 7 (q := (175, [some (.ref 39), some (.int v1), some (.int 2), some (.int v11)], [], σ11)) (q' := (186, [some (.ref 39), some (.int v1), some (.int 2), some (.int v11)], [.int v11], (s2 σ11 39 16 ((σ11 39 16) + 1)))) rfl ?_
              exact PW.iret (ins_l hw_129 rfl) (Or.inl rfl) ⟨_, rfl, h⟩
            · replace h := (if_pos (c_neF hc6)).mp h
              refine PW.runs hw_129 rfl 1 (q := (156, [some (.ref 39), some (.int v1), some (.int 2), some (.int v11)], [], σ11)) (q' := (157, [some (.ref 39), some (.int v1), some (.int 2), some (.int v11)], [.ref 39], σ11)) rfl ?_
              refine PW.callV (b := 39) (vs := []) (rest := []) (ins_l hw_129 rfl) rfl rfl rfl (Nat.le_of_ble_eq_true rfl) (Nat.le_of_ble_eq_true rfl) (PW.mono h ?_)
              rintro _ σ12 ⟨v12, rfl, h⟩
              show PW none 129 160 [some (.ref 39), some (.int v1), some (.int 2), some (.int v11)] [.int v12] σ12 _
              refine PW.runs hw_129 rfl 1 (q := (160, [some (.ref 39), some (.int v1), some (.int 2), some (.int v11)], [.int v12], σ12)) (q' := (162, [some (.ref 39), some (.int v1), some (.int 2), some (.int v11)], [.int 59, .int v12], σ12)) rfl ?_
              refine PW.icm (t := 175) (ins_l hw_129 rfl) rfl (fun hc7 => ?_) (fun hc7 => ?_)
              · replace h := (if_pos (c_eqT hc7)).mp h
                refine PW.runs hw_129 rfl 7 (q := (175, [some (.ref 39), some (.int v1), some (.int 2), some (.int v11)], [], σ12)) (q' := (186, [some (.ref 39), some (.int v1), some (.int 2), some (.int v11)], [.int v11], (s2 σ12 39 16 ((σ12 39 16) + 1)))) rfl ?_
                exact PW.iret (ins_l hw_129 rfl) (Or.inl rfl) ⟨_, rfl, h⟩
              · replace h := (if_neg (c_eqF hc7)).mp h
                refine PW.runs hw_129 rfl 4 (q := (165, [some (.ref 39), some (.int v1), some (.int 2), some (.int v11)], [], σ12)) (q' := (171, [some (.ref 39), some (.int v1), some (.int 2), some (.int v11)], [.int (σ12 39 16), .int 1, .ref 39], σ12)) rfl ?_
                refine PW.callV (b := 39) (vs := [.int 1, .int (σ12 39 16)]) (rest := []) (ins_l hw_129 rfl) rfl rfl rfl (Nat.le_of_ble_eq_true rfl) (Nat.le_of_ble_eq_true rfl) (PW.mono h ?_)
                rintro _ σ13 ⟨v13, rfl, h⟩
                show PW none 129 174 [some (.ref 39), some (.int v1), some (.int 2), some (.int v11)] [.int v13] σ13 _
                exact PW.iret (ins_l hw_129 rfl) (Or.inl rfl) ⟨_, rfl, h⟩
          · replace h := (if_neg (c_eqF hc5)).mp h
            refine PW.runs hw_129 rfl 4 (q := (92, [some (.ref 39), some (.int v1), some (.int 2), none], [], σ10)) (q' := (98, [some (.ref 39), some (.int v1), some (.int 2), none], [.int (σ10 39 16), .int 3, .ref 39], σ10)) rfl ?_
            refine PW.callV (b := 39) (vs := [.int 3, .int (σ10 39 16)]) (rest := []) (ins_l hw_129 rfl) rfl rfl rfl (Nat.le_of_ble_eq_true rfl) (Nat.le_of_ble_eq_true rfl) (PW.mono h ?_)
            rintro _ σ14 ⟨v14, rfl, h⟩
            show PW none 129 101 [some (.ref 39), some (.int v1), some (.int 2), none] [.int v14] σ14 _
            exact PW.iret (ins_l hw_129 rfl) (Or.inl rfl) ⟨_, rfl, h⟩
    · replace h := (if_pos (c_neF hc2)).mp h
      refine PW.runs hw_129 rfl 4 (q := (21, [some (.ref 39), some (.int v1), none, none], [], σ1)) (q' := (48, [some (.ref 39), some (.int v1), some (.int 1), none], [.int 1], σ1)) rfl ?_
      refine PW.ifcF (t := 74) (ins_l hw_129 rfl) rfl (by decide) ?_
      refine PW.runs hw_129 rfl 1 (q := (51, [some (.ref 39), some (.int v1), some (.int 1), none], [], σ1)) (q' := (52, [some (.ref 39), some (.int v1), some (.int 1), none], [.int 1], σ1)) rfl ?_
      refine PW.ifcF (t := 62) (ins_l hw_129 rfl) rfl (by decide) ?_
      refine PW.runs hw_129 rfl 2 (q := (55, [some (.ref 39), some (.int v1), some (.int 1), none], [], σ1)) (q' := (59, [some (.ref 39), some (.int v1), some (.int 1), none], [.int (σ1 39 19)], σ1)) rfl ?_
      refine PW.ifc (t := 74) (ins_l hw_129 rfl) rfl (fun hc3 => ?_) (fun hc3 => ?_)
      · replace h := (if_pos (c_eqT hc3)).mp h
        refine PW.runs hw_129 rfl 4 (q := (74, [some (.ref 39), some (.int v1), some (.int 1), none], [], σ1)) (q' := (80, [some (.ref 39), some (.int v1), some (.int 1), none], [.int (σ1 39 16), .int 1, .ref 39], σ1)) rfl ?_
        refine PW.callV (b := 39) (vs := [.int 1, .int (σ1 39 16)]) (rest := []) (ins_l hw_129 rfl) rfl rfl rfl (Nat.le_of_ble_eq_true rfl) (Nat.le_of_ble_eq_true rfl) (PW.mono h ?_)
        rintro _ σ15 ⟨v15, rfl, h⟩
        show PW none 129 83 [some (.ref 39), some (.int v1), some (.int 1), none] [.int v15] σ15 _
        exact PW.iret (ins_l hw_129 rfl) (Or.inl rfl) ⟨_, rfl, h⟩
      · replace h := (if_neg (c_eqF hc3)).mp h
        refine PW.runs hw_129 rfl 2 (q := (62, [some (.ref 39), some (.int v1), some (.int 1), none], [], σ1)) (q' := (64, [some (.ref 39), some (.int v1), some (.int 1), none], [.int 1, .int 1], σ1)) rfl ?_
        refine PW.icmF (t := 84) (ins_l hw_129 rfl) rfl (by decide) ?_
        refine PW.runs hw_129 rfl 2 (q := (67, [some (.ref 39), some (.int v1), some (.int 1), none], [], σ1)) (q' := (71, [some (.ref 39), some (.int v1), some (.int 1), none], [.int (σ1 39 25)], σ1)) rfl ?_
        refine PW.ifc (t := 84) (ins_l hw_129 rfl) rfl (fun hc4 => ?_) (fun hc4 => ?_)
        · replace h := (if_pos (c_leT hc4)).mp h
          refine PW.runs hw_129 rfl 2 (q := (84, [some (.ref 39), some (.int v1), some (.int 1), none], [], σ1)) (q' := (86, [some (.ref 39), some (.int v1), some (.int 1), none], [.int 1, .ref 39], σ1)) rfl ?_
          refine PW.callV (b := 39) (vs := [.int 1]) (rest := []) (ins_l hw_129 rfl) rfl rfl rfl (Nat.le_of_ble_eq_true rfl) (Nat.le_of_ble_eq_true rfl) (PW.mono h ?_)
          rintro _ σ16 ⟨v16, rfl, h⟩
          show PW none 129 89 [some (.ref 39), some (.int v1), some (.int 1), none] [.int v16] σ16 _
          refine PW.ifc (t := 102) (ins_l hw_129 rfl) rfl (fun hc5 => ?_) (fun hc5 => ?_)
          · replace h := (if_pos (c_eqT hc5)).mp h
            refine PW.runs hw_129 rfl 7 (q := (102, [some (.ref 39), some (.int v1), some (.int 1), none], [], σ16)) (q' := (113, [some (.ref 39), some (.int v1), some (.int 1), none], [.int 1], (s2 σ16 39 16 ((σ16 39 16) + 1)))) rfl ?_
            refine PW.ifcT (t := 123) (ins_l hw_129 rfl) rfl (by decide) ?_
            refine PW.runs hw_129 rfl 2 (q := (123, [some (.ref 39), some (.int v1), some (.int 1), none], [], (s2 σ16 39 16 ((σ16 39 16) + 1)))) (q' := (125, [some (.ref 39), some (.int v1), some (.int 1), none], [.int 1, .int 1], (s2 σ16 39 16 ((σ16 39 16) + 1)))) rfl ?_
            refine PW.icmF (t := 135) (ins_l hw_129 rfl) rfl (by decide) ?_
            refine PW.runs hw_129 rfl 1 (q := (128, [some (.ref 39), some (.int v1), some (.int 1), none], [], (s2 σ16 39 16 ((σ16 39 16) + 1)))) (q' := (129, [some (.ref 39), some (.int v1), some (.int 1), none], [.ref 39], (s2 σ16 39 16 ((σ16 39 16) + 1)))) rfl ?_
            refine PW.callV (b := 39) (vs := []) (rest := []) (ins_l hw_129 rfl) rfl rfl rfl (Nat.le_of_ble_eq_true rfl) (Nat.le_of_ble_eq_true rfl) (PW.mono h ?_)
            rintro _ σ17 ⟨v17, rfl, h⟩
            show PW none 129 132 [some (.ref 39), some (.int v1), some (.int 1), none] [.int v17] σ17 _
            refine PW.runs hw_129 rfl 3 (q := (132, [some (.ref 39), some (.int v1), some (.int 1), none], [.int v17], σ17)) (q' := (153, [some (.ref 39), some (.int v1), some (.int 1), some (.int v17)], [.int v17], σ17)) rfl ?_
            refine PW.ifc (t := 175) (ins_l hw_129 rfl) rfl (fun hc6 => ?_) (fun hc6 => ?_)
            · replace h := (if_neg (c_neT hc6)).mp h
              refine PW.runs hw_129 rfl 7 (q := (175, [some (.ref 39), some (.int v1), some (.int 1), some (.int v17)], [], σ17)) (q' := (186, [some (.ref 39), some (.int v1), some (.int 1), some (.int v17)], [.int v17], (s2 σ17 39 16 ((σ17 39 16) + 1)))) rfl ?_
              exact PW.iret (ins_l hw_129 rfl) (Or.inl rfl) ⟨_, rfl, h⟩
            · replace h := (if_pos (c_neF hc6)).mp h
              refine PW.runs hw_129 rfl 1 (q := (156, [some (.ref 39), some (.int v1), some (.int 1), some (.int v17)], [], σ17)) (q' := (157, [some (.ref 39), some (.int v1), some (.int 1), some (.int v17)], [.ref 39], σ17)) rfl ?_
              refine PW.callV (b := 39) (vs := []) (rest := []) (ins_l hw_129 rfl) rfl rfl rfl (Nat.le_of_ble_eq_true rfl) (Nat.le_of_ble_eq_true rfl) (PW.mono h ?_)
              rintro _ σ18 ⟨v18, rfl, h⟩
              show PW none 129 160 [some (.ref 39), some (.int v1), some (.int 1), some (.int v17)] [.int v18] σ18 _
              refine PW.runs hw_129 rfl 1 (q := (160, [some (.ref 39), some (.int v1), some (.int 1), some (.int v17)], [.int v18], σ18)) (q' := (162, [some (.ref 39), some (.int v1), some (.int 1), some (.int v17)], [.int 59, .int v18], σ18)) rfl ?_
              refine PW.icm (t := 175) (ins_l hw_129 rfl) rfl (fun hc7 => ?_) (fun hc7 => ?_)
              · replace h := (if_pos (c_eqT hc7)).mp h
                refine PW.runs hw_129 rfl 7 (q := (175, [some (.ref 39), some (.int v1), some (.int 1), some (.int v17)], [], σ18)) (q' := (186, [some (.ref 39), some (.int v1), some (.int 1), some (.int v17)], [.int v17], (s2 σ18 39 16 ((σ18 39 16) + 1)))) rfl ?_
                exact PW.iret (ins_l hw_129 rfl) (Or.inl rfl) ⟨_, rfl, h⟩
              · replace h := (if_neg (c_eqF hc7)).mp h
                refine PW.runs hw_129 rfl 4 (q := (165, [some (.ref 39), some (.int v1), some (.int 1), some (.int v17)], [], σ18)) (q' := (171, [some (.ref 39), some (.int v1), some (.int 1), some (.int v17)], [.int (σ18 39 16), .int 1, .ref 39], σ18)) rfl ?_
                refine PW.callV (b := 39) (vs := [.int 1, .int (σ18 39 16)]) (rest := []) (ins_l hw_129 rfl) rfl rfl rfl (Nat.le_of_ble_eq_true rfl) (Nat.le_of_ble_eq_true rfl) (PW.mono h ?_)
                rintro _ σ19 ⟨v19, rfl, h⟩
                show PW none 129 174 [some (.ref 39), some (.int v1), some (.int 1), some (.int v17)] [.int v19] σ19 _
                exact PW.iret (ins_l hw_129 rfl) (Or.inl rfl) ⟨_, rfl, h⟩
          · replace h := (if_neg (c_eqF hc5)).mp h
            refine PW.runs hw_129 rfl 4 (q := (92, [some (.ref 39), some (.int v1), some (.int 1), none], [], σ16)) (q' := (98, [some (.ref 39), some (.int v1), some (.int 1), none], [.int (σ16 39 16), .int 3, .ref 39], σ16)) rfl ?_
            refine PW.callV (b := 39) (vs := [.int 3, .int (σ16 39 16)]) (rest := []) (ins_l hw_129 rfl) rfl rfl rfl (Nat.le_of_ble_eq_true rfl) (Nat.le_of_ble_eq_true rfl) (PW.mono h ?_)
            rintro _ σ20 ⟨v20, rfl, h⟩
            show PW none 129 101 [some (.ref 39), some (.int v1), some (.int 1), none] [.int v20] σ20 _
            exact PW.iret (ins_l hw_129 rfl) (Or.inl rfl) ⟨_, rfl, h⟩
        · replace h := (if_neg (c_leF hc4)).mp h
          refine PW.runs hw_129 rfl 4 (q := (74, [some (.ref 39), some (.int v1), some (.int 1), none], [], σ1)) (q' := (80, [some (.ref 39), some (.int v1), some (.int 1), none], [.int (σ1 39 16), .int 1, .ref 39], σ1)) rfl ?_
          refine PW.callV (b := 39) (vs := [.int 1, .int (σ1 39 16)]) (rest := []) (ins_l hw_129 rfl) rfl rfl rfl (Nat.le_of_ble_eq_true rfl) (Nat.le_of_ble_eq_true rfl) (PW.mono h ?_)
          rintro _ σ21 ⟨v21, rfl, h⟩
          show PW none 129 83 [some (.ref 39), some (.int v1), some (.int 1), none] [.int v21] σ21 _
          exact PW.iret (ins_l hw_129 rfl) (Or.inl rfl) ⟨_, rfl, h⟩
  · replace h := (if_pos (c_neF hc1)).mp h
    refine PW.runs hw_129 rfl 4 (q := (11, [some (.ref 39), some (.int v1), none, none], [], σ1)) (q' := (48, [some (.ref 39), some (.int v1), some (.int 0), none], [.int 0], σ1)) rfl ?_
    refine PW.ifcF (t := 74) (ins_l hw_129 rfl) rfl (by decide) ?_
    refine PW.runs hw_129 rfl 1 (q := (51, [some (.ref 39), some (.int v1), some (.int 0), none], [], σ1)) (q' := (52, [some (.ref 39), some (.int v1), some (.int 0), none], [.int 0], σ1)) rfl ?_
    refine PW.ifcT (t := 62) (ins_l hw_129 rfl) rfl (by decide) ?_
    refine PW.runs hw_129 rfl 2 (q := (62, [some (.ref 39), some (.int v1), some (.int 0), none], [], σ1)) (q' := (64, [some (.ref 39), some (.int v1), some (.int 0), none], [.int 1, .int 0], σ1)) rfl ?_
    refine PW.icmT (t := 84) (ins_l hw_129 rfl) rfl (by decide) ?_
    refine PW.runs hw_129 rfl 2 (q := (84, [some (.ref 39), some (.int v1), some (.int 0), none], [], σ1)) (q' := (86, [some (.ref 39), some (.int v1), some (.int 0), none], [.int 0, .ref 39], σ1)) rfl ?_
    refine PW.callV (b := 39) (vs := [.int 0]) (rest := []) (ins_l hw_129 rfl) rfl rfl rfl (Nat.le_of_ble_eq_true rfl) (Nat.le_of_ble_eq_true rfl) (PW.mono h ?_)
    rintro _ σ22 ⟨v22, rfl, h⟩
    show PW none 129 89 [some (.ref 39), some (.int v1), some (.int 0), none] [.int v22] σ22 _
    refine PW.ifc (t := 102) (ins_l hw_129 rfl) rfl (fun hc2 => ?_) (fun hc2 => ?_)
    · replace h := (if_pos (c_eqT hc2)).mp h
      refine PW.runs hw_129 rfl 7 (q := (102, [some (.ref 39), some (.int v1), some (.int 0), none], [], σ22)) (q' := (113, [some (.ref 39), some (.int v1), some (.int 0), none], [.int 0], (s2 σ22 39 16 ((σ22 39 16) + 1)))) rfl ?_
      refine PW.ifcF (t := 123) (ins_l hw_129 rfl) rfl (by decide) ?_
      refine PW.runs hw_129 rfl 1 (q := (116, [some (.ref 39), some (.int v1), some (.int 0), none], [], (s2 σ22 39 16 ((σ22 39 16) + 1)))) (q' := (117, [some (.ref 39), some (.int v1), some (.int 0), none], [.ref 39], (s2 σ22 39 16 ((σ22 39 16) + 1)))) rfl ?_
      refine PW.callV (b := 39) (vs := []) (rest := []) (ins_l hw_129 rfl) rfl rfl rfl (Nat.le_of_ble_eq_true rfl) (Nat.le_of_ble_eq_true rfl) (PW.mono h ?_)
      rintro _ σ23 ⟨v23, rfl, h⟩
      show PW none 129 120 [some (.ref 39), some (.int v1), some (.int 0), none] [.int v23] σ23 _
      refine PW.runs hw_129 rfl 3 (q := (120, [some (.ref 39), some (.int v1), some (.int 0), none], [.int v23], σ23)) (q' := (153, [some (.ref 39), some (.int v1), some (.int 0), some (.int v23)], [.int v23], σ23)) rfl ?_
      refine PW.ifc (t := 175) (ins_l hw_129 rfl) rfl (fun hc3 => ?_) (fun hc3 => ?_)
      · replace h := (if_neg (c_neT hc3)).mp h
        refine PW.runs hw_129 rfl 7 (q := (175, [some (.ref 39), some (.int v1), some (.int 0), some (.int v23)], [], σ23)) (q' := (186, [some (.ref 39), some (.int v1), some (.int 0), some (.int v23)], [.int v23], (s2 σ23 39 16 ((σ23 39 16) + 1)))) rfl ?_
        exact PW.iret (ins_l hw_129 rfl) (Or.inl rfl) ⟨_, rfl, h⟩
      · replace h := (if_pos (c_neF hc3)).mp h
        refine PW.runs hw_129 rfl 1 (q := (156, [some (.ref 39), some (.int v1), some (.int 0), some (.int v23)], [], σ23)) (q' := (157, [some (.ref 39), some (.int v1), some (.int 0), some (.int v23)], [.ref 39], σ23)) rfl ?_
        refine PW.callV (b := 39) (vs := []) (rest := []) (ins_l hw_129 rfl) rfl rfl rfl (Nat.le_of_ble_eq_true rfl) (Nat.le_of_ble_eq_true rfl) (PW.mono h ?_)
        rintro _ σ24 ⟨v24, rfl, h⟩
        show PW none 129 160 [some (.ref 39), some (.int v1), some (.int 0), some (.int v23)] [.int v24] σ24 _
        refine PW.runs hw_129 rfl 1 (q := (160, [some (.ref 39), some (.int v1), some (.int 0), some (.int v23)], [.int v24], σ24)) (q' := (162, [some (.ref 39), some (.int v1), some (.int 0), some (.int v23)], [.int 59, .int v24], σ24)) rfl ?_
        refine PW.icm (t := 175) (ins_l hw_129 rfl) rfl (fun hc4 => ?_) (fun hc4 => ?_)
        · replace h := (if_pos (c_eqT hc4)).mp h
          refine PW.runs hw_129 rfl 7 (q := (175, [some (.ref 39), some (.int v1), some (.int 0), some (.int v23)], [], σ24)) (q' := (186, [some (.ref 39), some (.int v1), some (.int 0), some (.int v23)], [.int v23], (s2 σ24 39 16 ((σ24 39 16) + 1)))) rfl ?_
          exact PW.iret (ins_l hw_129 rfl) (Or.inl rfl) ⟨_, rfl, h⟩
        · replace h := (if_neg (c_eqF hc4)).mp h
          refine PW.runs hw_129 rfl 4 (q := (165, [some (.ref 39), some (.int v1), some (.int 0), some (.int v23)], [], σ24)) (q' := (171, [some (.ref 39), some (.int v1), some (.int 0), some (.int v23)], [.int (σ24 39 16), .int 1, .ref 39], σ24)) rfl ?_
          refine PW.callV (b := 39) (vs := [.int 1, .int (σ24 39 16)]) (rest := []) (ins_l hw_129 rfl) rfl rfl rfl (Nat.le_of_ble_eq_true rfl) (Nat.le_of_ble_eq_true rfl) (PW.mono h ?_)
          rintro _ σ25 ⟨v25, rfl, h⟩
          show PW none 129 174 [some (.ref 39), some (.int v1), some (.int 0), some (.int v23)] [.int v25] σ25 _
          exact PW.iret (ins_l hw_129 rfl) (Or.inl rfl) ⟨_, rfl, h⟩
    · replace h := (if_neg (c_eqF hc2)).mp h
      refine PW.runs hw_129 rfl 4 (q := (92, [some (.ref 39), some (.int v1), some (.int 0), none], [], σ22)) (q' := (98, [some (.ref 39), some (.int v1), some (.int 0), none], [.int (σ22 39 16), .int 3, .ref 39], σ22)) rfl ?_
      refine PW.callV (b := 39) (vs := [.int 3, .int (σ22 39 16)]) (rest := []) (ins_l hw_129 rfl) rfl rfl rfl (Nat.le_of_ble_eq_true rfl) (Nat.le_of_ble_eq_true rfl) (PW.mono h ?_)
      rintro _ σ26 ⟨v26, rfl, h⟩
      show PW none 129 101 [some (.ref 39), some (.int v1), some (.int 0), none] [.int v26] σ26 _
      exact PW.iret (ins_l hw_129 rfl) (Or.inl rfl) ⟨_, rfl, h⟩
theorem hw_132 : pins.getD 132 [] = pi_132 := rfl
/-! MapDutyModel.survey.()I -/
set_option maxRecDepth 20000 in
theorem w_132  {σ : St} {K : Int32 → St → Prop} (h : PI 132 37 [some (.ref 39), some (.int 0)] [] (s2 (s2 (s2 (s2 (s2 (s2 (s2 σ 39 15 (-1)) 39 16 0) 39 19 0) 39 20 0) 39 24 0) 39 25 0) 39 28 0) K) : CI 132 [.ref 39] σ K := by
  show PW none 132 0 [some (.ref 39), none] [] σ _
  refine PW.runs hw_132 rfl 23 (q := (0, [some (.ref 39), none], [], σ)) (q' := (37, [some (.ref 39), some (.int 0)], [], (s2 (s2 (s2 (s2 (s2 (s2 (s2 σ 39 15 (-1)) 39 16 0) 39 19 0) 39 20 0) 39 24 0) 39 25 0) 39 28 0))) rfl ?_
  exact h
set_option maxRecDepth 20000 in
theorem w_132_37 {x1 : Int32} {σ : St} {K : Int32 → St → Prop} (h : (if x1 = 0 then CI 118 [.ref 39] σ (fun v2 σ2 => (if v2 < 0 then (if x1 ≤ 0 then CV 131 [.ref 39] (s2 σ2 39 14 0) (fun σ3 => K (σ3 39 1) (s2 (s2 (s2 (s2 (s2 σ3 39 34 0) 39 37 0) 39 32 0) 62 0 (vp_nar .boolean 0)) 62 1 (vp_nar .boolean 0))) else K ((-10) - x1) (s2 σ2 39 14 0)) else CI 129 [.ref 39] σ2 (fun v4 σ4 => PI 132 37 [some (.ref 39), some (.int v4)] [] σ4 K))) else (if x1 ≤ 0 then CV 131 [.ref 39] (s2 σ 39 14 0) (fun σ1 => K (σ1 39 1) (s2 (s2 (s2 (s2 (s2 σ1 39 34 0) 39 37 0) 39 32 0) 62 0 (vp_nar .boolean 0)) 62 1 (vp_nar .boolean 0))) else K ((-10) - x1) (s2 σ 39 14 0)))) : PI 132 37 [some (.ref 39), some (.int x1)] [] σ K := by
  show PW none 132 37 [some (.ref 39), some (.int x1)] [] σ _
  refine PW.runs hw_132 rfl 1 (q := (37, [some (.ref 39), some (.int x1)], [], σ)) (q' := (38, [some (.ref 39), some (.int x1)], [.int x1], σ)) rfl ?_
  refine PW.ifc (t := 56) (ins_l hw_132 rfl) rfl (fun hc1 => ?_) (fun hc1 => ?_)
  · replace h := (if_neg (c_neT hc1)).mp h
    refine PW.runs hw_132 rfl 4 (q := (56, [some (.ref 39), some (.int x1)], [], σ)) (q' := (62, [some (.ref 39), some (.int x1)], [.int x1], (s2 σ 39 14 0))) rfl ?_
    refine PW.ifc (t := 70) (ins_l hw_132 rfl) rfl (fun hc2 => ?_) (fun hc2 => ?_)
    · replace h := (if_pos (c_leT hc2)).mp h
      refine PW.runs hw_132 rfl 1 (q := (70, [some (.ref 39), some (.int x1)], [], (s2 σ 39 14 0))) (q' := (71, [some (.ref 39), some (.int x1)], [.ref 39], (s2 σ 39 14 0))) rfl ?_
      refine PW.callV (b := 39) (vs := []) (rest := []) (ins_l hw_132 rfl) rfl rfl rfl (Nat.le_of_ble_eq_true rfl) (Nat.le_of_ble_eq_true rfl) (PW.mono h ?_)
      rintro _ σ1 ⟨rfl, h⟩
      show PW none 132 74 [some (.ref 39), some (.int x1)] [] σ1 _
      refine PW.runs hw_132 rfl 13 (q := (74, [some (.ref 39), some (.int x1)], [], σ1)) (q' := (95, [some (.ref 39), some (.int x1)], [.int 0, .int 0, .ref 62], (s2 (s2 (s2 σ1 39 34 0) 39 37 0) 39 32 0))) rfl ?_
      refine PW.bast (n := 2) (ins_l hw_132 rfl) rfl (by decide) ?_
      refine PW.runs hw_132 rfl 4 (q := (96, [some (.ref 39), some (.int x1)], [], (s2 (s2 (s2 (s2 σ1 39 34 0) 39 37 0) 39 32 0) 62 0 (vp_nar .boolean 0)))) (q' := (102, [some (.ref 39), some (.int x1)], [.int 0, .int 1, .ref 62], (s2 (s2 (s2 (s2 σ1 39 34 0) 39 37 0) 39 32 0) 62 0 (vp_nar .boolean 0)))) rfl ?_
      refine PW.bast (n := 2) (ins_l hw_132 rfl) rfl (by decide) ?_
      refine PW.runs hw_132 rfl 2 (q := (103, [some (.ref 39), some (.int x1)], [], (s2 (s2 (s2 (s2 (s2 σ1 39 34 0) 39 37 0) 39 32 0) 62 0 (vp_nar .boolean 0)) 62 1 (vp_nar .boolean 0)))) (q' := (107, [some (.ref 39), some (.int x1)], [.int (σ1 39 1)], (s2 (s2 (s2 (s2 (s2 σ1 39 34 0) 39 37 0) 39 32 0) 62 0 (vp_nar .boolean 0)) 62 1 (vp_nar .boolean 0)))) rfl ?_
      exact PW.iret (ins_l hw_132 rfl) (Or.inl rfl) ⟨_, rfl, h⟩
    · replace h := (if_neg (c_leF hc2)).mp h
      refine PW.runs hw_132 rfl 3 (q := (65, [some (.ref 39), some (.int x1)], [], (s2 σ 39 14 0))) (q' := (69, [some (.ref 39), some (.int x1)], [.int ((-10) - x1)], (s2 σ 39 14 0))) rfl ?_
      exact PW.iret (ins_l hw_132 rfl) (Or.inl rfl) ⟨_, rfl, h⟩
  · replace h := (if_pos (c_neF hc1)).mp h
    refine PW.runs hw_132 rfl 1 (q := (41, [some (.ref 39), some (.int x1)], [], σ)) (q' := (42, [some (.ref 39), some (.int x1)], [.ref 39], σ)) rfl ?_
    refine PW.callV (b := 39) (vs := []) (rest := []) (ins_l hw_132 rfl) rfl rfl rfl (Nat.le_of_ble_eq_true rfl) (Nat.le_of_ble_eq_true rfl) (PW.mono h ?_)
    rintro _ σ2 ⟨v2, rfl, h⟩
    show PW none 132 45 [some (.ref 39), some (.int x1)] [.int v2] σ2 _
    refine PW.ifc (t := 56) (ins_l hw_132 rfl) rfl (fun hc2 => ?_) (fun hc2 => ?_)
    · replace h := (if_pos (c_ltT hc2)).mp h
      refine PW.runs hw_132 rfl 4 (q := (56, [some (.ref 39), some (.int x1)], [], σ2)) (q' := (62, [some (.ref 39), some (.int x1)], [.int x1], (s2 σ2 39 14 0))) rfl ?_
      refine PW.ifc (t := 70) (ins_l hw_132 rfl) rfl (fun hc3 => ?_) (fun hc3 => ?_)
      · replace h := (if_pos (c_leT hc3)).mp h
        refine PW.runs hw_132 rfl 1 (q := (70, [some (.ref 39), some (.int x1)], [], (s2 σ2 39 14 0))) (q' := (71, [some (.ref 39), some (.int x1)], [.ref 39], (s2 σ2 39 14 0))) rfl ?_
        refine PW.callV (b := 39) (vs := []) (rest := []) (ins_l hw_132 rfl) rfl rfl rfl (Nat.le_of_ble_eq_true rfl) (Nat.le_of_ble_eq_true rfl) (PW.mono h ?_)
        rintro _ σ3 ⟨rfl, h⟩
        show PW none 132 74 [some (.ref 39), some (.int x1)] [] σ3 _
        refine PW.runs hw_132 rfl 13 (q := (74, [some (.ref 39), some (.int x1)], [], σ3)) (q' := (95, [some (.ref 39), some (.int x1)], [.int 0, .int 0, .ref 62], (s2 (s2 (s2 σ3 39 34 0) 39 37 0) 39 32 0))) rfl ?_
        refine PW.bast (n := 2) (ins_l hw_132 rfl) rfl (by decide) ?_
        refine PW.runs hw_132 rfl 4 (q := (96, [some (.ref 39), some (.int x1)], [], (s2 (s2 (s2 (s2 σ3 39 34 0) 39 37 0) 39 32 0) 62 0 (vp_nar .boolean 0)))) (q' := (102, [some (.ref 39), some (.int x1)], [.int 0, .int 1, .ref 62], (s2 (s2 (s2 (s2 σ3 39 34 0) 39 37 0) 39 32 0) 62 0 (vp_nar .boolean 0)))) rfl ?_
        refine PW.bast (n := 2) (ins_l hw_132 rfl) rfl (by decide) ?_
        refine PW.runs hw_132 rfl 2 (q := (103, [some (.ref 39), some (.int x1)], [], (s2 (s2 (s2 (s2 (s2 σ3 39 34 0) 39 37 0) 39 32 0) 62 0 (vp_nar .boolean 0)) 62 1 (vp_nar .boolean 0)))) (q' := (107, [some (.ref 39), some (.int x1)], [.int (σ3 39 1)], (s2 (s2 (s2 (s2 (s2 σ3 39 34 0) 39 37 0) 39 32 0) 62 0 (vp_nar .boolean 0)) 62 1 (vp_nar .boolean 0)))) rfl ?_
        exact PW.iret (ins_l hw_132 rfl) (Or.inl rfl) ⟨_, rfl, h⟩
      · replace h := (if_neg (c_leF hc3)).mp h
        refine PW.runs hw_132 rfl 3 (q := (65, [some (.ref 39), some (.int x1)], [], (s2 σ2 39 14 0))) (q' := (69, [some (.ref 39), some (.int x1)], [.int ((-10) - x1)], (s2 σ2 39 14 0))) rfl ?_
        exact PW.iret (ins_l hw_132 rfl) (Or.inl rfl) ⟨_, rfl, h⟩
    · replace h := (if_neg (c_ltF hc2)).mp h
      refine PW.runs hw_132 rfl 1 (q := (48, [some (.ref 39), some (.int x1)], [], σ2)) (q' := (49, [some (.ref 39), some (.int x1)], [.ref 39], σ2)) rfl ?_
      refine PW.callV (b := 39) (vs := []) (rest := []) (ins_l hw_132 rfl) rfl rfl rfl (Nat.le_of_ble_eq_true rfl) (Nat.le_of_ble_eq_true rfl) (PW.mono h ?_)
      rintro _ σ4 ⟨v4, rfl, h⟩
      show PW none 132 52 [some (.ref 39), some (.int x1)] [.int v4] σ4 _
      refine PW.runs hw_132 rfl 2 (q := (52, [some (.ref 39), some (.int x1)], [.int v4], σ4)) (q' := (37, [some (.ref 39), some (.int v4)], [], σ4)) rfl ?_
      exact h
theorem hw_121 : pins.getD 121 [] = pi_121 := rfl
/-! MapDutyModel.into.([IIII)I -/
set_option maxRecDepth 20000 in
theorem w_121_48 {a : Int32} {b : Int32} {c : Int32} {σ : St} {K : Int32 → St → Prop} (h : CI 120 [.ref 39, .int b, .int c] σ (fun v1 σ1 => ((0 ≤ a.toInt ∧ a.toInt < 12) ∧ K v1 (s2 σ1 48 (Int32.toNatClampNeg a) (σ1 39 17))))) : CI 121 [.ref 39, .ref 48, .int a, .int b, .int c] σ K := by
  show PW none 121 0 [some (.ref 39), some (.ref 48), some (.int a), some (.int b), some (.int c), none] [] σ _
  refine PW.runs hw_121 rfl 3 (q := (0, [some (.ref 39), some (.ref 48), some (.int a), some (.int b), some (.int c), none], [], σ)) (q' := (4, [some (.ref 39), some (.ref 48), some (.int a), some (.int b), some (.int c), none], [.int c, .int b, .ref 39], σ)) rfl ?_
  refine PW.callV (b := 39) (vs := [.int b, .int c]) (rest := []) (ins_l hw_121 rfl) rfl rfl rfl (Nat.le_of_ble_eq_true rfl) (Nat.le_of_ble_eq_true rfl) (PW.mono h ?_)
  rintro _ σ1 ⟨v1, rfl, h⟩
  show PW none 121 7 [some (.ref 39), some (.ref 48), some (.int a), some (.int b), some (.int c), none] [.int v1] σ1 _
  refine PW.runs hw_121 rfl 5 (q := (7, [some (.ref 39), some (.ref 48), some (.int a), some (.int b), some (.int c), none], [.int v1], σ1)) (q' := (15, [some (.ref 39), some (.ref 48), some (.int a), some (.int b), some (.int c), some (.int v1)], [.int (σ1 39 17), .int a, .ref 48], σ1)) rfl ?_
  obtain ⟨hb1, h⟩ := h
  refine PW.iast (n := 12) (ins_l hw_121 rfl) rfl (idx_in hb1.1 hb1.2).1 ?_
  refine PW.runs hw_121 rfl 1 (q := (16, [some (.ref 39), some (.ref 48), some (.int a), some (.int b), some (.int c), some (.int v1)], [], (s2 σ1 48 (Int32.toNatClampNeg a) (σ1 39 17)))) (q' := (18, [some (.ref 39), some (.ref 48), some (.int a), some (.int b), some (.int c), some (.int v1)], [.int v1], (s2 σ1 48 (Int32.toNatClampNeg a) (σ1 39 17)))) rfl ?_
  exact PW.iret (ins_l hw_121 rfl) (Or.inl rfl) ⟨_, rfl, h⟩
/-! MapDutyModel.into.([IIII)I -/
set_option maxRecDepth 20000 in
theorem w_121_49 {a : Int32} {b : Int32} {c : Int32} {σ : St} {K : Int32 → St → Prop} (h : CI 120 [.ref 39, .int b, .int c] σ (fun v1 σ1 => ((0 ≤ a.toInt ∧ a.toInt < 12) ∧ K v1 (s2 σ1 49 (Int32.toNatClampNeg a) (σ1 39 17))))) : CI 121 [.ref 39, .ref 49, .int a, .int b, .int c] σ K := by
  show PW none 121 0 [some (.ref 39), some (.ref 49), some (.int a), some (.int b), some (.int c), none] [] σ _
  refine PW.runs hw_121 rfl 3 (q := (0, [some (.ref 39), some (.ref 49), some (.int a), some (.int b), some (.int c), none], [], σ)) (q' := (4, [some (.ref 39), some (.ref 49), some (.int a), some (.int b), some (.int c), none], [.int c, .int b, .ref 39], σ)) rfl ?_
  refine PW.callV (b := 39) (vs := [.int b, .int c]) (rest := []) (ins_l hw_121 rfl) rfl rfl rfl (Nat.le_of_ble_eq_true rfl) (Nat.le_of_ble_eq_true rfl) (PW.mono h ?_)
  rintro _ σ1 ⟨v1, rfl, h⟩
  show PW none 121 7 [some (.ref 39), some (.ref 49), some (.int a), some (.int b), some (.int c), none] [.int v1] σ1 _
  refine PW.runs hw_121 rfl 5 (q := (7, [some (.ref 39), some (.ref 49), some (.int a), some (.int b), some (.int c), none], [.int v1], σ1)) (q' := (15, [some (.ref 39), some (.ref 49), some (.int a), some (.int b), some (.int c), some (.int v1)], [.int (σ1 39 17), .int a, .ref 49], σ1)) rfl ?_
  obtain ⟨hb1, h⟩ := h
  refine PW.iast (n := 12) (ins_l hw_121 rfl) rfl (idx_in hb1.1 hb1.2).1 ?_
  refine PW.runs hw_121 rfl 1 (q := (16, [some (.ref 39), some (.ref 49), some (.int a), some (.int b), some (.int c), some (.int v1)], [], (s2 σ1 49 (Int32.toNatClampNeg a) (σ1 39 17)))) (q' := (18, [some (.ref 39), some (.ref 49), some (.int a), some (.int b), some (.int c), some (.int v1)], [.int v1], (s2 σ1 49 (Int32.toNatClampNeg a) (σ1 39 17)))) rfl ?_
  exact PW.iret (ins_l hw_121 rfl) (Or.inl rfl) ⟨_, rfl, h⟩
/-! MapDutyModel.into.([IIII)I -/
set_option maxRecDepth 20000 in
theorem w_121_50 {a : Int32} {b : Int32} {c : Int32} {σ : St} {K : Int32 → St → Prop} (h : CI 120 [.ref 39, .int b, .int c] σ (fun v1 σ1 => ((0 ≤ a.toInt ∧ a.toInt < 12) ∧ K v1 (s2 σ1 50 (Int32.toNatClampNeg a) (σ1 39 17))))) : CI 121 [.ref 39, .ref 50, .int a, .int b, .int c] σ K := by
  show PW none 121 0 [some (.ref 39), some (.ref 50), some (.int a), some (.int b), some (.int c), none] [] σ _
  refine PW.runs hw_121 rfl 3 (q := (0, [some (.ref 39), some (.ref 50), some (.int a), some (.int b), some (.int c), none], [], σ)) (q' := (4, [some (.ref 39), some (.ref 50), some (.int a), some (.int b), some (.int c), none], [.int c, .int b, .ref 39], σ)) rfl ?_
  refine PW.callV (b := 39) (vs := [.int b, .int c]) (rest := []) (ins_l hw_121 rfl) rfl rfl rfl (Nat.le_of_ble_eq_true rfl) (Nat.le_of_ble_eq_true rfl) (PW.mono h ?_)
  rintro _ σ1 ⟨v1, rfl, h⟩
  show PW none 121 7 [some (.ref 39), some (.ref 50), some (.int a), some (.int b), some (.int c), none] [.int v1] σ1 _
  refine PW.runs hw_121 rfl 5 (q := (7, [some (.ref 39), some (.ref 50), some (.int a), some (.int b), some (.int c), none], [.int v1], σ1)) (q' := (15, [some (.ref 39), some (.ref 50), some (.int a), some (.int b), some (.int c), some (.int v1)], [.int (σ1 39 17), .int a, .ref 50], σ1)) rfl ?_
  obtain ⟨hb1, h⟩ := h
  refine PW.iast (n := 12) (ins_l hw_121 rfl) rfl (idx_in hb1.1 hb1.2).1 ?_
  refine PW.runs hw_121 rfl 1 (q := (16, [some (.ref 39), some (.ref 50), some (.int a), some (.int b), some (.int c), some (.int v1)], [], (s2 σ1 50 (Int32.toNatClampNeg a) (σ1 39 17)))) (q' := (18, [some (.ref 39), some (.ref 50), some (.int a), some (.int b), some (.int c), some (.int v1)], [.int v1], (s2 σ1 50 (Int32.toNatClampNeg a) (σ1 39 17)))) rfl ?_
  exact PW.iret (ins_l hw_121 rfl) (Or.inl rfl) ⟨_, rfl, h⟩
/-! MapDutyModel.into.([IIII)I -/
set_option maxRecDepth 20000 in
theorem w_121_51 {a : Int32} {b : Int32} {c : Int32} {σ : St} {K : Int32 → St → Prop} (h : CI 120 [.ref 39, .int b, .int c] σ (fun v1 σ1 => ((0 ≤ a.toInt ∧ a.toInt < 5) ∧ K v1 (s2 σ1 51 (Int32.toNatClampNeg a) (σ1 39 17))))) : CI 121 [.ref 39, .ref 51, .int a, .int b, .int c] σ K := by
  show PW none 121 0 [some (.ref 39), some (.ref 51), some (.int a), some (.int b), some (.int c), none] [] σ _
  refine PW.runs hw_121 rfl 3 (q := (0, [some (.ref 39), some (.ref 51), some (.int a), some (.int b), some (.int c), none], [], σ)) (q' := (4, [some (.ref 39), some (.ref 51), some (.int a), some (.int b), some (.int c), none], [.int c, .int b, .ref 39], σ)) rfl ?_
  refine PW.callV (b := 39) (vs := [.int b, .int c]) (rest := []) (ins_l hw_121 rfl) rfl rfl rfl (Nat.le_of_ble_eq_true rfl) (Nat.le_of_ble_eq_true rfl) (PW.mono h ?_)
  rintro _ σ1 ⟨v1, rfl, h⟩
  show PW none 121 7 [some (.ref 39), some (.ref 51), some (.int a), some (.int b), some (.int c), none] [.int v1] σ1 _
  refine PW.runs hw_121 rfl 5 (q := (7, [some (.ref 39), some (.ref 51), some (.int a), some (.int b), some (.int c), none], [.int v1], σ1)) (q' := (15, [some (.ref 39), some (.ref 51), some (.int a), some (.int b), some (.int c), some (.int v1)], [.int (σ1 39 17), .int a, .ref 51], σ1)) rfl ?_
  obtain ⟨hb1, h⟩ := h
  refine PW.iast (n := 5) (ins_l hw_121 rfl) rfl (idx_in hb1.1 hb1.2).1 ?_
  refine PW.runs hw_121 rfl 1 (q := (16, [some (.ref 39), some (.ref 51), some (.int a), some (.int b), some (.int c), some (.int v1)], [], (s2 σ1 51 (Int32.toNatClampNeg a) (σ1 39 17)))) (q' := (18, [some (.ref 39), some (.ref 51), some (.int a), some (.int b), some (.int c), some (.int v1)], [.int v1], (s2 σ1 51 (Int32.toNatClampNeg a) (σ1 39 17)))) rfl ?_
  exact PW.iret (ins_l hw_121 rfl) (Or.inl rfl) ⟨_, rfl, h⟩
/-! MapDutyModel.into.([IIII)I -/
set_option maxRecDepth 20000 in
theorem w_121_53 {a : Int32} {b : Int32} {c : Int32} {σ : St} {K : Int32 → St → Prop} (h : CI 120 [.ref 39, .int b, .int c] σ (fun v1 σ1 => ((0 ≤ a.toInt ∧ a.toInt < 4) ∧ K v1 (s2 σ1 53 (Int32.toNatClampNeg a) (σ1 39 17))))) : CI 121 [.ref 39, .ref 53, .int a, .int b, .int c] σ K := by
  show PW none 121 0 [some (.ref 39), some (.ref 53), some (.int a), some (.int b), some (.int c), none] [] σ _
  refine PW.runs hw_121 rfl 3 (q := (0, [some (.ref 39), some (.ref 53), some (.int a), some (.int b), some (.int c), none], [], σ)) (q' := (4, [some (.ref 39), some (.ref 53), some (.int a), some (.int b), some (.int c), none], [.int c, .int b, .ref 39], σ)) rfl ?_
  refine PW.callV (b := 39) (vs := [.int b, .int c]) (rest := []) (ins_l hw_121 rfl) rfl rfl rfl (Nat.le_of_ble_eq_true rfl) (Nat.le_of_ble_eq_true rfl) (PW.mono h ?_)
  rintro _ σ1 ⟨v1, rfl, h⟩
  show PW none 121 7 [some (.ref 39), some (.ref 53), some (.int a), some (.int b), some (.int c), none] [.int v1] σ1 _
  refine PW.runs hw_121 rfl 5 (q := (7, [some (.ref 39), some (.ref 53), some (.int a), some (.int b), some (.int c), none], [.int v1], σ1)) (q' := (15, [some (.ref 39), some (.ref 53), some (.int a), some (.int b), some (.int c), some (.int v1)], [.int (σ1 39 17), .int a, .ref 53], σ1)) rfl ?_
  obtain ⟨hb1, h⟩ := h
  refine PW.iast (n := 4) (ins_l hw_121 rfl) rfl (idx_in hb1.1 hb1.2).1 ?_
  refine PW.runs hw_121 rfl 1 (q := (16, [some (.ref 39), some (.ref 53), some (.int a), some (.int b), some (.int c), some (.int v1)], [], (s2 σ1 53 (Int32.toNatClampNeg a) (σ1 39 17)))) (q' := (18, [some (.ref 39), some (.ref 53), some (.int a), some (.int b), some (.int c), some (.int v1)], [.int v1], (s2 σ1 53 (Int32.toNatClampNeg a) (σ1 39 17)))) rfl ?_
  exact PW.iret (ins_l hw_121 rfl) (Or.inl rfl) ⟨_, rfl, h⟩
