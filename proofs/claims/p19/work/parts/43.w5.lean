/-! ways -/
theorem hw_38 : pins.getD 38 [] = pi_38 := rfl
/-! MapDuty$Roads.measure.(II)V -/
set_option maxRecDepth 20000 in
theorem w_38 {a : Int32} {b : Int32} {σ : St} {K : St → Prop} (h : CV 193 [.ref 28, .int (-1)] σ (fun σ1 => (if b < 0 then PV 38 30 [some (.ref 27), some (.int a), some (.int b), some (.int 1), some (.int 0), none] [] σ1 K else (if 8 ≤ b then PV 38 30 [some (.ref 27), some (.int a), some (.int b), some (.int 1), some (.int 0), none] [] σ1 K else ((0 ≤ b.toInt ∧ b.toInt < 8) ∧ PV 38 30 [some (.ref 27), some (.int a), some (.int b), some (.int 1), some (.int 0), none] [] (s2 σ1 28 (Int32.toNatClampNeg b) 0) K))))) : CV 38 [.ref 27, .int a, .int b] σ K := by
  show PW none 38 0 [some (.ref 27), some (.int a), some (.int b), none, none, none] [] σ _
  refine PW.runs hw_38 rfl 3 (q := (0, [some (.ref 27), some (.int a), some (.int b), none, none, none], [], σ)) (q' := (5, [some (.ref 27), some (.int a), some (.int b), none, none, none], [.int (-1), .ref 28], σ)) rfl ?_
  refine PW.callS (vs := [.ref 28, .int (-1)]) (rest := []) (ins_l hw_38 rfl) rfl (Or.inl rfl) rfl (Nat.le_of_ble_eq_true rfl) (Nat.le_of_ble_eq_true rfl) (PW.mono h ?_)
  rintro _ σ1 ⟨rfl, h⟩
  show PW none 38 8 [some (.ref 27), some (.int a), some (.int b), none, none, none] [] σ1 _
  refine PW.runs hw_38 rfl 1 (q := (8, [some (.ref 27), some (.int a), some (.int b), none, none, none], [], σ1)) (q' := (9, [some (.ref 27), some (.int a), some (.int b), none, none, none], [.int b], σ1)) rfl ?_
  refine PW.ifc (t := 25) (ins_l hw_38 rfl) rfl (fun hc1 => ?_) (fun hc1 => ?_)
  · replace h := (if_pos (c_ltT hc1)).mp h
    refine PW.runs hw_38 rfl 4 (q := (25, [some (.ref 27), some (.int a), some (.int b), none, none, none], [], σ1)) (q' := (30, [some (.ref 27), some (.int a), some (.int b), some (.int 1), some (.int 0), none], [], σ1)) rfl ?_
    exact h
  · replace h := (if_neg (c_ltF hc1)).mp h
    refine PW.runs hw_38 rfl 2 (q := (12, [some (.ref 27), some (.int a), some (.int b), none, none, none], [], σ1)) (q' := (15, [some (.ref 27), some (.int a), some (.int b), none, none, none], [.int 8, .int b], σ1)) rfl ?_
    refine PW.icm (t := 25) (ins_l hw_38 rfl) rfl (fun hc2 => ?_) (fun hc2 => ?_)
    · replace h := (if_pos (c_geT hc2)).mp h
      refine PW.runs hw_38 rfl 4 (q := (25, [some (.ref 27), some (.int a), some (.int b), none, none, none], [], σ1)) (q' := (30, [some (.ref 27), some (.int a), some (.int b), some (.int 1), some (.int 0), none], [], σ1)) rfl ?_
      exact h
    · replace h := (if_neg (c_geF hc2)).mp h
      refine PW.runs hw_38 rfl 4 (q := (18, [some (.ref 27), some (.int a), some (.int b), none, none, none], [], σ1)) (q' := (24, [some (.ref 27), some (.int a), some (.int b), none, none, none], [.int 0, .int b, .ref 28], σ1)) rfl ?_
      obtain ⟨hb1, h⟩ := h
      refine PW.iast (n := 8) (ins_l hw_38 rfl) rfl (idx_in hb1.1 hb1.2).1 ?_
      refine PW.runs hw_38 rfl 4 (q := (25, [some (.ref 27), some (.int a), some (.int b), none, none, none], [], (s2 σ1 28 (Int32.toNatClampNeg b) 0))) (q' := (30, [some (.ref 27), some (.int a), some (.int b), some (.int 1), some (.int 0), none], [], (s2 σ1 28 (Int32.toNatClampNeg b) 0))) rfl ?_
      exact h
set_option maxRecDepth 20000 in
theorem w_38_30 {a : Int32} {b : Int32} {x3 : Int32} {x4 : Int32} {o5 : Option Value} {σ : St} {K : St → Prop} (h : (if x3 = 0 then K σ else (if 8 ≤ x4 then K σ else PV 38 46 [some (.ref 27), some (.int a), some (.int b), some (.int 0), some (.int x4), some (.int 0)] [] σ K))) : PV 38 30 [some (.ref 27), some (.int a), some (.int b), some (.int x3), some (.int x4), o5] [] σ K := by
  show PW none 38 30 [some (.ref 27), some (.int a), some (.int b), some (.int x3), some (.int x4), o5] [] σ _
  refine PW.runs hw_38 rfl 1 (q := (30, [some (.ref 27), some (.int a), some (.int b), some (.int x3), some (.int x4), o5], [], σ)) (q' := (31, [some (.ref 27), some (.int a), some (.int b), some (.int x3), some (.int x4), o5], [.int x3], σ)) rfl ?_
  refine PW.ifc (t := 138) (ins_l hw_38 rfl) rfl (fun hc1 => ?_) (fun hc1 => ?_)
  · replace h := (if_pos (c_eqT hc1)).mp h
    exact PW.vret (ins_l hw_38 rfl) rfl ⟨rfl, h⟩
  · replace h := (if_neg (c_eqF hc1)).mp h
    refine PW.runs hw_38 rfl 2 (q := (34, [some (.ref 27), some (.int a), some (.int b), some (.int x3), some (.int x4), o5], [], σ)) (q' := (38, [some (.ref 27), some (.int a), some (.int b), some (.int x3), some (.int x4), o5], [.int 8, .int x4], σ)) rfl ?_
    refine PW.icm (t := 138) (ins_l hw_38 rfl) rfl (fun hc2 => ?_) (fun hc2 => ?_)
    · replace h := (if_pos (c_geT hc2)).mp h
      exact PW.vret (ins_l hw_38 rfl) rfl ⟨rfl, h⟩
    · replace h := (if_neg (c_geF hc2)).mp h
      refine PW.runs hw_38 rfl 4 (q := (41, [some (.ref 27), some (.int a), some (.int b), some (.int x3), some (.int x4), o5], [], σ)) (q' := (46, [some (.ref 27), some (.int a), some (.int b), some (.int 0), some (.int x4), some (.int 0)], [], σ)) rfl ?_
      exact h
set_option maxRecDepth 20000 in
theorem w_38_46 {a : Int32} {b : Int32} {x3 : Int32} {x4 : Int32} {x5 : Int32} {σ : St} {K : St → Prop} (h : (if (σ 11 1) ≤ x5 then PV 38 30 [some (.ref 27), some (.int a), some (.int b), some (.int x3), some (.int (x4 + 1)), some (.int x5)] [] σ K else CI 92 [.int a, .int x5] σ (fun v1 σ1 => (if v1 = 1 then ((0 ≤ x5.toInt ∧ x5.toInt < 12) ∧ CI 39 [.ref 27, .int (σ1 12 (Int32.toNatClampNeg x5)), .int (σ1 13 (Int32.toNatClampNeg x5)), .int x4] σ1 (fun v2 σ2 => CI 39 [.ref 27, .int (σ2 13 (Int32.toNatClampNeg x5)), .int (σ2 12 (Int32.toNatClampNeg x5)), .int x4] σ2 (fun v3 σ3 => PV 38 46 [some (.ref 27), some (.int a), some (.int b), some (.int ((x3 ||| v2) ||| v3)), some (.int x4), some (.int (x5 + 1))] [] σ3 K))) else PV 38 46 [some (.ref 27), some (.int a), some (.int b), some (.int x3), some (.int x4), some (.int (x5 + 1))] [] σ1 K)))) : PV 38 46 [some (.ref 27), some (.int a), some (.int b), some (.int x3), some (.int x4), some (.int x5)] [] σ K := by
  show PW none 38 46 [some (.ref 27), some (.int a), some (.int b), some (.int x3), some (.int x4), some (.int x5)] [] σ _
  refine PW.runs hw_38 rfl 4 (q := (46, [some (.ref 27), some (.int a), some (.int b), some (.int x3), some (.int x4), some (.int x5)], [], σ)) (q' := (55, [some (.ref 27), some (.int a), some (.int b), some (.int x3), some (.int x4), some (.int x5)], [.int (σ 11 1), .int x5], σ)) rfl ?_
  refine PW.icm (t := 132) (ins_l hw_38 rfl) rfl (fun hc1 => ?_) (fun hc1 => ?_)
  · replace h := (if_pos (c_geT hc1)).mp h
    refine PW.runs hw_38 rfl 2 (q := (132, [some (.ref 27), some (.int a), some (.int b), some (.int x3), some (.int x4), some (.int x5)], [], σ)) (q' := (30, [some (.ref 27), some (.int a), some (.int b), some (.int x3), some (.int (x4 + 1)), some (.int x5)], [], σ)) rfl ?_
    exact h
  · replace h := (if_neg (c_geF hc1)).mp h
    refine PW.runs hw_38 rfl 2 (q := (58, [some (.ref 27), some (.int a), some (.int b), some (.int x3), some (.int x4), some (.int x5)], [], σ)) (q' := (61, [some (.ref 27), some (.int a), some (.int b), some (.int x3), some (.int x4), some (.int x5)], [.int x5, .int a], σ)) rfl ?_
    refine PW.callS (vs := [.int a, .int x5]) (rest := []) (ins_l hw_38 rfl) rfl (Or.inr rfl) rfl (Nat.le_of_ble_eq_true rfl) (Nat.le_of_ble_eq_true rfl) (PW.mono h ?_)
    rintro _ σ1 ⟨v1, rfl, h⟩
    show PW none 38 64 [some (.ref 27), some (.int a), some (.int b), some (.int x3), some (.int x4), some (.int x5)] [.int v1] σ1 _
    refine PW.runs hw_38 rfl 1 (q := (64, [some (.ref 27), some (.int a), some (.int b), some (.int x3), some (.int x4), some (.int x5)], [.int v1], σ1)) (q' := (65, [some (.ref 27), some (.int a), some (.int b), some (.int x3), some (.int x4), some (.int x5)], [.int 1, .int v1], σ1)) rfl ?_
    refine PW.icm (t := 126) (ins_l hw_38 rfl) rfl (fun hc2 => ?_) (fun hc2 => ?_)
    · replace h := (if_neg (c_neT hc2)).mp h
      refine PW.runs hw_38 rfl 2 (q := (126, [some (.ref 27), some (.int a), some (.int b), some (.int x3), some (.int x4), some (.int x5)], [], σ1)) (q' := (46, [some (.ref 27), some (.int a), some (.int b), some (.int x3), some (.int x4), some (.int (x5 + 1))], [], σ1)) rfl ?_
      exact h
    · replace h := (if_pos (c_neF hc2)).mp h
      refine PW.runs hw_38 rfl 6 (q := (68, [some (.ref 27), some (.int a), some (.int b), some (.int x3), some (.int x4), some (.int x5)], [], σ1)) (q' := (79, [some (.ref 27), some (.int a), some (.int b), some (.int x3), some (.int x4), some (.int x5)], [.int x5, .ref 12, .ref 27, .int x3], σ1)) rfl ?_
      obtain ⟨hb1, h⟩ := h
      refine PW.iald (n := 12) (ins_l hw_38 rfl) rfl (idx_in hb1.1 hb1.2).1 ?_
      refine PW.runs hw_38 rfl 4 (q := (80, [some (.ref 27), some (.int a), some (.int b), some (.int x3), some (.int x4), some (.int x5)], [.int (σ1 12 (Int32.toNatClampNeg x5)), .ref 27, .int x3], σ1)) (q' := (89, [some (.ref 27), some (.int a), some (.int b), some (.int x3), some (.int x4), some (.int x5)], [.int x5, .ref 13, .int (σ1 12 (Int32.toNatClampNeg x5)), .ref 27, .int x3], σ1)) rfl ?_
      refine PW.iald (n := 12) (ins_l hw_38 rfl) rfl (idx_in hb1.1 hb1.2).1 ?_
      refine PW.runs hw_38 rfl 1 (q := (90, [some (.ref 27), some (.int a), some (.int b), some (.int x3), some (.int x4), some (.int x5)], [.int (σ1 13 (Int32.toNatClampNeg x5)), .int (σ1 12 (Int32.toNatClampNeg x5)), .ref 27, .int x3], σ1)) (q' := (92, [some (.ref 27), some (.int a), some (.int b), some (.int x3), some (.int x4), some (.int x5)], [.int x4, .int (σ1 13 (Int32.toNatClampNeg x5)), .int (σ1 12 (Int32.toNatClampNeg x5)), .ref 27, .int x3], σ1)) rfl ?_
      refine PW.callV (b := 27) (vs := [.int (σ1 12 (Int32.toNatClampNeg x5)), .int (σ1 13 (Int32.toNatClampNeg x5)), .int x4]) (rest := [.int x3]) (ins_l hw_38 rfl) rfl rfl rfl (Nat.le_of_ble_eq_true rfl) (Nat.le_of_ble_eq_true rfl) (PW.mono h ?_)
      rintro _ σ2 ⟨v2, rfl, h⟩
      show PW none 38 95 [some (.ref 27), some (.int a), some (.int b), some (.int x3), some (.int x4), some (.int x5)] [.int v2, .int x3] σ2 _
      refine PW.runs hw_38 rfl 8 (q := (95, [some (.ref 27), some (.int a), some (.int b), some (.int x3), some (.int x4), some (.int x5)], [.int v2, .int x3], σ2)) (q' := (108, [some (.ref 27), some (.int a), some (.int b), some (.int (x3 ||| v2)), some (.int x4), some (.int x5)], [.int x5, .ref 13, .ref 27, .int (x3 ||| v2)], σ2)) rfl ?_
      refine PW.iald (n := 12) (ins_l hw_38 rfl) rfl (idx_in hb1.1 hb1.2).1 ?_
      refine PW.runs hw_38 rfl 4 (q := (109, [some (.ref 27), some (.int a), some (.int b), some (.int (x3 ||| v2)), some (.int x4), some (.int x5)], [.int (σ2 13 (Int32.toNatClampNeg x5)), .ref 27, .int (x3 ||| v2)], σ2)) (q' := (118, [some (.ref 27), some (.int a), some (.int b), some (.int (x3 ||| v2)), some (.int x4), some (.int x5)], [.int x5, .ref 12, .int (σ2 13 (Int32.toNatClampNeg x5)), .ref 27, .int (x3 ||| v2)], σ2)) rfl ?_
      refine PW.iald (n := 12) (ins_l hw_38 rfl) rfl (idx_in hb1.1 hb1.2).1 ?_
      refine PW.runs hw_38 rfl 1 (q := (119, [some (.ref 27), some (.int a), some (.int b), some (.int (x3 ||| v2)), some (.int x4), some (.int x5)], [.int (σ2 12 (Int32.toNatClampNeg x5)), .int (σ2 13 (Int32.toNatClampNeg x5)), .ref 27, .int (x3 ||| v2)], σ2)) (q' := (121, [some (.ref 27), some (.int a), some (.int b), some (.int (x3 ||| v2)), some (.int x4), some (.int x5)], [.int x4, .int (σ2 12 (Int32.toNatClampNeg x5)), .int (σ2 13 (Int32.toNatClampNeg x5)), .ref 27, .int (x3 ||| v2)], σ2)) rfl ?_
      refine PW.callV (b := 27) (vs := [.int (σ2 13 (Int32.toNatClampNeg x5)), .int (σ2 12 (Int32.toNatClampNeg x5)), .int x4]) (rest := [.int (x3 ||| v2)]) (ins_l hw_38 rfl) rfl rfl rfl (Nat.le_of_ble_eq_true rfl) (Nat.le_of_ble_eq_true rfl) (PW.mono h ?_)
      rintro _ σ3 ⟨v3, rfl, h⟩
      show PW none 38 124 [some (.ref 27), some (.int a), some (.int b), some (.int (x3 ||| v2)), some (.int x4), some (.int x5)] [.int v3, .int (x3 ||| v2)] σ3 _
      refine PW.runs hw_38 rfl 4 (q := (124, [some (.ref 27), some (.int a), some (.int b), some (.int (x3 ||| v2)), some (.int x4), some (.int x5)], [.int v3, .int (x3 ||| v2)], σ3)) (q' := (46, [some (.ref 27), some (.int a), some (.int b), some (.int ((x3 ||| v2) ||| v3)), some (.int x4), some (.int (x5 + 1))], [], σ3)) rfl ?_
      exact h
theorem hw_39 : pins.getD 39 [] = pi_39 := rfl
/-! MapDuty$Roads.spread.(III)Z -/
set_option maxRecDepth 20000 in
theorem w_39 {a : Int32} {b : Int32} {c : Int32} {σ : St} {K : Int32 → St → Prop} (h : CI 40 [.ref 27, .int a] σ (fun v1 σ1 => (if v1 = c then CI 40 [.ref 27, .int b] σ1 (fun v2 σ2 => (if v2 = (-1) then CI 91 [.int b, .int 0, .int 7] σ2 (fun v3 σ3 => (if v3 = 0 then K 0 σ3 else ((0 ≤ b.toInt ∧ b.toInt < 8) ∧ K 1 (s2 σ3 28 (Int32.toNatClampNeg b) (c + 1))))) else K 0 σ2)) else K 0 σ1))) : CI 39 [.ref 27, .int a, .int b, .int c] σ K := by
  show PW none 39 0 [some (.ref 27), some (.int a), some (.int b), some (.int c)] [] σ _
  refine PW.runs hw_39 rfl 2 (q := (0, [some (.ref 27), some (.int a), some (.int b), some (.int c)], [], σ)) (q' := (2, [some (.ref 27), some (.int a), some (.int b), some (.int c)], [.int a, .ref 27], σ)) rfl ?_
  refine PW.callV (b := 27) (vs := [.int a]) (rest := []) (ins_l hw_39 rfl) rfl rfl rfl (Nat.le_of_ble_eq_true rfl) (Nat.le_of_ble_eq_true rfl) (PW.mono h ?_)
  rintro _ σ1 ⟨v1, rfl, h⟩
  show PW none 39 5 [some (.ref 27), some (.int a), some (.int b), some (.int c)] [.int v1] σ1 _
  refine PW.runs hw_39 rfl 1 (q := (5, [some (.ref 27), some (.int a), some (.int b), some (.int c)], [.int v1], σ1)) (q' := (6, [some (.ref 27), some (.int a), some (.int b), some (.int c)], [.int c, .int v1], σ1)) rfl ?_
  refine PW.icm (t := 28) (ins_l hw_39 rfl) rfl (fun hc1 => ?_) (fun hc1 => ?_)
  · replace h := (if_neg (c_neT hc1)).mp h
    refine PW.runs hw_39 rfl 1 (q := (28, [some (.ref 27), some (.int a), some (.int b), some (.int c)], [], σ1)) (q' := (29, [some (.ref 27), some (.int a), some (.int b), some (.int c)], [.int 0], σ1)) rfl ?_
    exact PW.iret (ins_l hw_39 rfl) (Or.inr ⟨rfl, by decide⟩) ⟨_, rfl, h⟩
  · replace h := (if_pos (c_neF hc1)).mp h
    refine PW.runs hw_39 rfl 2 (q := (9, [some (.ref 27), some (.int a), some (.int b), some (.int c)], [], σ1)) (q' := (11, [some (.ref 27), some (.int a), some (.int b), some (.int c)], [.int b, .ref 27], σ1)) rfl ?_
    refine PW.callV (b := 27) (vs := [.int b]) (rest := []) (ins_l hw_39 rfl) rfl rfl rfl (Nat.le_of_ble_eq_true rfl) (Nat.le_of_ble_eq_true rfl) (PW.mono h ?_)
    rintro _ σ2 ⟨v2, rfl, h⟩
    show PW none 39 14 [some (.ref 27), some (.int a), some (.int b), some (.int c)] [.int v2] σ2 _
    refine PW.runs hw_39 rfl 1 (q := (14, [some (.ref 27), some (.int a), some (.int b), some (.int c)], [.int v2], σ2)) (q' := (15, [some (.ref 27), some (.int a), some (.int b), some (.int c)], [.int (-1), .int v2], σ2)) rfl ?_
    refine PW.icm (t := 28) (ins_l hw_39 rfl) rfl (fun hc2 => ?_) (fun hc2 => ?_)
    · replace h := (if_neg (c_neT hc2)).mp h
      refine PW.runs hw_39 rfl 1 (q := (28, [some (.ref 27), some (.int a), some (.int b), some (.int c)], [], σ2)) (q' := (29, [some (.ref 27), some (.int a), some (.int b), some (.int c)], [.int 0], σ2)) rfl ?_
      exact PW.iret (ins_l hw_39 rfl) (Or.inr ⟨rfl, by decide⟩) ⟨_, rfl, h⟩
    · replace h := (if_pos (c_neF hc2)).mp h
      refine PW.runs hw_39 rfl 3 (q := (18, [some (.ref 27), some (.int a), some (.int b), some (.int c)], [], σ2)) (q' := (22, [some (.ref 27), some (.int a), some (.int b), some (.int c)], [.int 7, .int 0, .int b], σ2)) rfl ?_
      refine PW.callS (vs := [.int b, .int 0, .int 7]) (rest := []) (ins_l hw_39 rfl) rfl (Or.inr rfl) rfl (Nat.le_of_ble_eq_true rfl) (Nat.le_of_ble_eq_true rfl) (PW.mono h ?_)
      rintro _ σ3 ⟨v3, rfl, h⟩
      show PW none 39 25 [some (.ref 27), some (.int a), some (.int b), some (.int c)] [.int v3] σ3 _
      refine PW.ifc (t := 30) (ins_l hw_39 rfl) rfl (fun hc3 => ?_) (fun hc3 => ?_)
      · replace h := (if_neg (c_neT hc3)).mp h
        refine PW.runs hw_39 rfl 6 (q := (30, [some (.ref 27), some (.int a), some (.int b), some (.int c)], [], σ3)) (q' := (38, [some (.ref 27), some (.int a), some (.int b), some (.int c)], [.int (c + 1), .int b, .ref 28], σ3)) rfl ?_
        obtain ⟨hb1, h⟩ := h
        refine PW.iast (n := 8) (ins_l hw_39 rfl) rfl (idx_in hb1.1 hb1.2).1 ?_
        refine PW.runs hw_39 rfl 1 (q := (39, [some (.ref 27), some (.int a), some (.int b), some (.int c)], [], (s2 σ3 28 (Int32.toNatClampNeg b) (c + 1)))) (q' := (40, [some (.ref 27), some (.int a), some (.int b), some (.int c)], [.int 1], (s2 σ3 28 (Int32.toNatClampNeg b) (c + 1)))) rfl ?_
        exact PW.iret (ins_l hw_39 rfl) (Or.inr ⟨rfl, by decide⟩) ⟨_, rfl, h⟩
      · replace h := (if_pos (c_neF hc3)).mp h
        refine PW.runs hw_39 rfl 1 (q := (28, [some (.ref 27), some (.int a), some (.int b), some (.int c)], [], σ3)) (q' := (29, [some (.ref 27), some (.int a), some (.int b), some (.int c)], [.int 0], σ3)) rfl ?_
        exact PW.iret (ins_l hw_39 rfl) (Or.inr ⟨rfl, by decide⟩) ⟨_, rfl, h⟩
theorem hw_40 : pins.getD 40 [] = pi_40 := rfl
/-! MapDuty$Roads.farFrom.(I)I -/
set_option maxRecDepth 20000 in
theorem w_40 {a : Int32} {σ : St} {K : Int32 → St → Prop} (h : (if a < 0 then K (-1) σ else (if 8 ≤ a then K (-1) σ else ((0 ≤ a.toInt ∧ a.toInt < 8) ∧ K (σ 28 (Int32.toNatClampNeg a)) σ)))) : CI 40 [.ref 27, .int a] σ K := by
  show PW none 40 0 [some (.ref 27), some (.int a)] [] σ _
  refine PW.runs hw_40 rfl 1 (q := (0, [some (.ref 27), some (.int a)], [], σ)) (q' := (1, [some (.ref 27), some (.int a)], [.int a], σ)) rfl ?_
  refine PW.ifc (t := 19) (ins_l hw_40 rfl) rfl (fun hc1 => ?_) (fun hc1 => ?_)
  · replace h := (if_pos (c_ltT hc1)).mp h
    refine PW.runs hw_40 rfl 1 (q := (19, [some (.ref 27), some (.int a)], [], σ)) (q' := (20, [some (.ref 27), some (.int a)], [.int (-1)], σ)) rfl ?_
    exact PW.iret (ins_l hw_40 rfl) (Or.inl rfl) ⟨_, rfl, h⟩
  · replace h := (if_neg (c_ltF hc1)).mp h
    refine PW.runs hw_40 rfl 2 (q := (4, [some (.ref 27), some (.int a)], [], σ)) (q' := (7, [some (.ref 27), some (.int a)], [.int 8, .int a], σ)) rfl ?_
    refine PW.icm (t := 19) (ins_l hw_40 rfl) rfl (fun hc2 => ?_) (fun hc2 => ?_)
    · replace h := (if_pos (c_geT hc2)).mp h
      refine PW.runs hw_40 rfl 1 (q := (19, [some (.ref 27), some (.int a)], [], σ)) (q' := (20, [some (.ref 27), some (.int a)], [.int (-1)], σ)) rfl ?_
      exact PW.iret (ins_l hw_40 rfl) (Or.inl rfl) ⟨_, rfl, h⟩
    · replace h := (if_neg (c_geF hc2)).mp h
      refine PW.runs hw_40 rfl 3 (q := (10, [some (.ref 27), some (.int a)], [], σ)) (q' := (15, [some (.ref 27), some (.int a)], [.int a, .ref 28], σ)) rfl ?_
      obtain ⟨hb1, h⟩ := h
      refine PW.iald (n := 8) (ins_l hw_40 rfl) rfl (idx_in hb1.1 hb1.2).1 ?_
      refine PW.runs hw_40 rfl 1 (q := (16, [some (.ref 27), some (.int a)], [.int (σ 28 (Int32.toNatClampNeg a))], σ)) (q' := (20, [some (.ref 27), some (.int a)], [.int (σ 28 (Int32.toNatClampNeg a))], σ)) rfl ?_
      exact PW.iret (ins_l hw_40 rfl) (Or.inl rfl) ⟨_, rfl, h⟩
/-! java/util/Arrays.fill.([II)V -/
set_option maxRecDepth 20000 in
theorem w_193_28 {a : Int32} {σ : St} {K : St → Prop} (h : PV 193 5 [some (.ref 28), some (.int a), some (.int 0), some (.int 8)] [] σ K) : CV 193 [.ref 28, .int a] σ K := by
  show PW none 193 0 [some (.ref 28), some (.int a), none, none] [] σ _
  refine PW.runs hw_193 rfl 5 (q := (0, [some (.ref 28), some (.int a), none, none], [], σ)) (q' := (5, [some (.ref 28), some (.int a), some (.int 0), some (.int 8)], [], σ)) rfl ?_
  exact h
set_option maxRecDepth 20000 in
theorem w_193_28_5 {a : Int32} {x2 : Int32} {x3 : Int32} {σ : St} {K : St → Prop} (h : (if x3 ≤ x2 then K σ else ((0 ≤ x2.toInt ∧ x2.toInt < 8) ∧ PV 193 5 [some (.ref 28), some (.int a), some (.int (x2 + 1)), some (.int x3)] [] (s2 σ 28 (Int32.toNatClampNeg x2) a) K))) : PV 193 5 [some (.ref 28), some (.int a), some (.int x2), some (.int x3)] [] σ K := by
  show PW none 193 5 [some (.ref 28), some (.int a), some (.int x2), some (.int x3)] [] σ _
  refine PW.runs hw_193 rfl 2 (q := (5, [some (.ref 28), some (.int a), some (.int x2), some (.int x3)], [], σ)) (q' := (7, [some (.ref 28), some (.int a), some (.int x2), some (.int x3)], [.int x3, .int x2], σ)) rfl ?_
  refine PW.icm (t := 20) (ins_l hw_193 rfl) rfl (fun hc1 => ?_) (fun hc1 => ?_)
  · replace h := (if_pos (c_geT hc1)).mp h
    exact PW.vret (ins_l hw_193 rfl) rfl ⟨rfl, h⟩
  · replace h := (if_neg (c_geF hc1)).mp h
    refine PW.runs hw_193 rfl 3 (q := (10, [some (.ref 28), some (.int a), some (.int x2), some (.int x3)], [], σ)) (q' := (13, [some (.ref 28), some (.int a), some (.int x2), some (.int x3)], [.int a, .int x2, .ref 28], σ)) rfl ?_
    obtain ⟨hb1, h⟩ := h
    refine PW.iast (n := 8) (ins_l hw_193 rfl) rfl (idx_in hb1.1 hb1.2).1 ?_
    refine PW.runs hw_193 rfl 2 (q := (14, [some (.ref 28), some (.int a), some (.int x2), some (.int x3)], [], (s2 σ 28 (Int32.toNatClampNeg x2) a))) (q' := (5, [some (.ref 28), some (.int a), some (.int (x2 + 1)), some (.int x3)], [], (s2 σ 28 (Int32.toNatClampNeg x2) a))) rfl ?_
    exact h
