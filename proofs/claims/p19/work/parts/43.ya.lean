/-! code: reach, cutOff -/
theorem hw_37 : pins.getD 37 [] = pi_37 := rfl
/-! MapDuty$Roads.reach.(II)I -/
set_option maxRecDepth 20000 in
theorem w_37 {a : Int32} {b : Int32} {σ : St} {K : Int32 → St → Prop} (h : PI 37 10 [some (.ref 27), some (.int a), some (.int b), some (.int (1 <<< (b &&& 31))), some (.int 1), some (.int 0), none] [] σ K) : CI 37 [.ref 27, .int a, .int b] σ K := by
  show PW none 37 0 [some (.ref 27), some (.int a), some (.int b), none, none, none, none] [] σ _
  refine PW.runs hw_37 rfl 8 (q := (0, [some (.ref 27), some (.int a), some (.int b), none, none, none, none], [], σ)) (q' := (10, [some (.ref 27), some (.int a), some (.int b), some (.int (1 <<< (b &&& 31))), some (.int 1), some (.int 0), none], [], σ)) rfl ?_
  exact h
set_option maxRecDepth 20000 in
theorem w_37_10 {a : Int32} {b : Int32} {x3 : Int32} {x4 : Int32} {x5 : Int32} {o6 : Option Value} {σ : St} {K : Int32 → St → Prop} (h : (if x4 = 0 then K x3 σ else (if 8 ≤ x5 then K x3 σ else PI 37 28 [some (.ref 27), some (.int a), some (.int b), some (.int x3), some (.int 0), some (.int x5), some (.int 0)] [] σ K))) : PI 37 10 [some (.ref 27), some (.int a), some (.int b), some (.int x3), some (.int x4), some (.int x5), o6] [] σ K := by
  show PW none 37 10 [some (.ref 27), some (.int a), some (.int b), some (.int x3), some (.int x4), some (.int x5), o6] [] σ _
  refine PW.runs hw_37 rfl 1 (q := (10, [some (.ref 27), some (.int a), some (.int b), some (.int x3), some (.int x4), some (.int x5), o6], [], σ)) (q' := (12, [some (.ref 27), some (.int a), some (.int b), some (.int x3), some (.int x4), some (.int x5), o6], [.int x4], σ)) rfl ?_
  refine PW.ifc (t := 124) (ins_l hw_37 rfl) rfl (fun hc1 => ?_) (fun hc1 => ?_)
  · replace h := (if_pos (c_eqT hc1)).mp h
    refine PW.runs hw_37 rfl 1 (q := (124, [some (.ref 27), some (.int a), some (.int b), some (.int x3), some (.int x4), some (.int x5), o6], [], σ)) (q' := (125, [some (.ref 27), some (.int a), some (.int b), some (.int x3), some (.int x4), some (.int x5), o6], [.int x3], σ)) rfl ?_
    exact PW.iret (ins_l hw_37 rfl) (Or.inl rfl) ⟨_, rfl, h⟩
  · replace h := (if_neg (c_eqF hc1)).mp h
    refine PW.runs hw_37 rfl 2 (q := (15, [some (.ref 27), some (.int a), some (.int b), some (.int x3), some (.int x4), some (.int x5), o6], [], σ)) (q' := (19, [some (.ref 27), some (.int a), some (.int b), some (.int x3), some (.int x4), some (.int x5), o6], [.int 8, .int x5], σ)) rfl ?_
    refine PW.icm (t := 124) (ins_l hw_37 rfl) rfl (fun hc2 => ?_) (fun hc2 => ?_)
    · replace h := (if_pos (c_geT hc2)).mp h
      refine PW.runs hw_37 rfl 1 (q := (124, [some (.ref 27), some (.int a), some (.int b), some (.int x3), some (.int x4), some (.int x5), o6], [], σ)) (q' := (125, [some (.ref 27), some (.int a), some (.int b), some (.int x3), some (.int x4), some (.int x5), o6], [.int x3], σ)) rfl ?_
      exact PW.iret (ins_l hw_37 rfl) (Or.inl rfl) ⟨_, rfl, h⟩
    · replace h := (if_neg (c_geF hc2)).mp h
      refine PW.runs hw_37 rfl 4 (q := (22, [some (.ref 27), some (.int a), some (.int b), some (.int x3), some (.int x4), some (.int x5), o6], [], σ)) (q' := (28, [some (.ref 27), some (.int a), some (.int b), some (.int x3), some (.int 0), some (.int x5), some (.int 0)], [], σ)) rfl ?_
      exact h
set_option maxRecDepth 20000 in
theorem w_37_28 {a : Int32} {b : Int32} {x3 : Int32} {x4 : Int32} {x5 : Int32} {x6 : Int32} {σ : St} {K : Int32 → St → Prop} (h : (if (σ 11 1) ≤ x6 then PI 37 10 [some (.ref 27), some (.int a), some (.int b), some (.int x3), some (.int x4), some (.int (x5 + 1)), some (.int x6)] [] σ K else CI 92 [.int a, .int x6] σ (fun v1 σ1 => (if v1 = 1 then ((0 ≤ x6.toInt ∧ x6.toInt < 12) ∧ CI 92 [.int x3, .int (σ1 12 (Int32.toNatClampNeg x6))] σ1 (fun v2 σ2 => CI 92 [.int x3, .int (σ2 13 (Int32.toNatClampNeg x6))] σ2 (fun v3 σ3 => (if v2 = v3 then PI 37 28 [some (.ref 27), some (.int a), some (.int b), some (.int x3), some (.int x4), some (.int x5), some (.int (x6 + 1))] [] σ3 K else PI 37 28 [some (.ref 27), some (.int a), some (.int b), some (.int (x3 ||| ((1 <<< ((σ3 12 (Int32.toNatClampNeg x6)) &&& 31)) ||| (1 <<< ((σ3 13 (Int32.toNatClampNeg x6)) &&& 31))))), some (.int 1), some (.int x5), some (.int (x6 + 1))] [] σ3 K)))) else PI 37 28 [some (.ref 27), some (.int a), some (.int b), some (.int x3), some (.int x4), some (.int x5), some (.int (x6 + 1))] [] σ1 K)))) : PI 37 28 [some (.ref 27), some (.int a), some (.int b), some (.int x3), some (.int x4), some (.int x5), some (.int x6)] [] σ K := by
  show PW none 37 28 [some (.ref 27), some (.int a), some (.int b), some (.int x3), some (.int x4), some (.int x5), some (.int x6)] [] σ _
  refine PW.runs hw_37 rfl 4 (q := (28, [some (.ref 27), some (.int a), some (.int b), some (.int x3), some (.int x4), some (.int x5), some (.int x6)], [], σ)) (q' := (37, [some (.ref 27), some (.int a), some (.int b), some (.int x3), some (.int x4), some (.int x5), some (.int x6)], [.int (σ 11 1), .int x6], σ)) rfl ?_
  refine PW.icm (t := 118) (ins_l hw_37 rfl) rfl (fun hc1 => ?_) (fun hc1 => ?_)
  · replace h := (if_pos (c_geT hc1)).mp h
    refine PW.runs hw_37 rfl 2 (q := (118, [some (.ref 27), some (.int a), some (.int b), some (.int x3), some (.int x4), some (.int x5), some (.int x6)], [], σ)) (q' := (10, [some (.ref 27), some (.int a), some (.int b), some (.int x3), some (.int x4), some (.int (x5 + 1)), some (.int x6)], [], σ)) rfl ?_
    exact h
  · replace h := (if_neg (c_geF hc1)).mp h
    refine PW.runs hw_37 rfl 2 (q := (40, [some (.ref 27), some (.int a), some (.int b), some (.int x3), some (.int x4), some (.int x5), some (.int x6)], [], σ)) (q' := (43, [some (.ref 27), some (.int a), some (.int b), some (.int x3), some (.int x4), some (.int x5), some (.int x6)], [.int x6, .int a], σ)) rfl ?_
    refine PW.callS (vs := [.int a, .int x6]) (rest := []) (ins_l hw_37 rfl) rfl (Or.inr rfl) rfl (Nat.le_of_ble_eq_true rfl) (Nat.le_of_ble_eq_true rfl) (PW.mono h ?_)
    rintro _ σ1 ⟨v1, rfl, h⟩
    show PW none 37 46 [some (.ref 27), some (.int a), some (.int b), some (.int x3), some (.int x4), some (.int x5), some (.int x6)] [.int v1] σ1 _
    refine PW.runs hw_37 rfl 1 (q := (46, [some (.ref 27), some (.int a), some (.int b), some (.int x3), some (.int x4), some (.int x5), some (.int x6)], [.int v1], σ1)) (q' := (47, [some (.ref 27), some (.int a), some (.int b), some (.int x3), some (.int x4), some (.int x5), some (.int x6)], [.int 1, .int v1], σ1)) rfl ?_
    refine PW.icm (t := 112) (ins_l hw_37 rfl) rfl (fun hc2 => ?_) (fun hc2 => ?_)
    · replace h := (if_neg (c_neT hc2)).mp h
      refine PW.runs hw_37 rfl 2 (q := (112, [some (.ref 27), some (.int a), some (.int b), some (.int x3), some (.int x4), some (.int x5), some (.int x6)], [], σ1)) (q' := (28, [some (.ref 27), some (.int a), some (.int b), some (.int x3), some (.int x4), some (.int x5), some (.int (x6 + 1))], [], σ1)) rfl ?_
      exact h
    · replace h := (if_pos (c_neF hc2)).mp h
      refine PW.runs hw_37 rfl 5 (q := (50, [some (.ref 27), some (.int a), some (.int b), some (.int x3), some (.int x4), some (.int x5), some (.int x6)], [], σ1)) (q' := (60, [some (.ref 27), some (.int a), some (.int b), some (.int x3), some (.int x4), some (.int x5), some (.int x6)], [.int x6, .ref 12, .int x3], σ1)) rfl ?_
      obtain ⟨hb1, h⟩ := h
      refine PW.iald (n := 12) (ins_l hw_37 rfl) rfl (idx_in hb1.1 hb1.2).1 ?_
      refine PW.callS (vs := [.int x3, .int (σ1 12 (Int32.toNatClampNeg x6))]) (rest := []) (ins_l hw_37 rfl) rfl (Or.inr rfl) rfl (Nat.le_of_ble_eq_true rfl) (Nat.le_of_ble_eq_true rfl) (PW.mono h ?_)
      rintro _ σ2 ⟨v2, rfl, h⟩
      show PW none 37 64 [some (.ref 27), some (.int a), some (.int b), some (.int x3), some (.int x4), some (.int x5), some (.int x6)] [.int v2] σ2 _
      refine PW.runs hw_37 rfl 5 (q := (64, [some (.ref 27), some (.int a), some (.int b), some (.int x3), some (.int x4), some (.int x5), some (.int x6)], [.int v2], σ2)) (q' := (74, [some (.ref 27), some (.int a), some (.int b), some (.int x3), some (.int x4), some (.int x5), some (.int x6)], [.int x6, .ref 13, .int x3, .int v2], σ2)) rfl ?_
      refine PW.iald (n := 12) (ins_l hw_37 rfl) rfl (idx_in hb1.1 hb1.2).1 ?_
      refine PW.callS (vs := [.int x3, .int (σ2 13 (Int32.toNatClampNeg x6))]) (rest := [.int v2]) (ins_l hw_37 rfl) rfl (Or.inr rfl) rfl (Nat.le_of_ble_eq_true rfl) (Nat.le_of_ble_eq_true rfl) (PW.mono h ?_)
      rintro _ σ3 ⟨v3, rfl, h⟩
      show PW none 37 78 [some (.ref 27), some (.int a), some (.int b), some (.int x3), some (.int x4), some (.int x5), some (.int x6)] [.int v3, .int v2] σ3 _
      refine PW.icm (t := 112) (ins_l hw_37 rfl) rfl (fun hc3 => ?_) (fun hc3 => ?_)
      · replace h := (if_pos (c_eqT hc3)).mp h
        refine PW.runs hw_37 rfl 2 (q := (112, [some (.ref 27), some (.int a), some (.int b), some (.int x3), some (.int x4), some (.int x5), some (.int x6)], [], σ3)) (q' := (28, [some (.ref 27), some (.int a), some (.int b), some (.int x3), some (.int x4), some (.int x5), some (.int (x6 + 1))], [], σ3)) rfl ?_
        exact h
      · replace h := (if_neg (c_eqF hc3)).mp h
        refine PW.runs hw_37 rfl 6 (q := (81, [some (.ref 27), some (.int a), some (.int b), some (.int x3), some (.int x4), some (.int x5), some (.int x6)], [], σ3)) (q' := (92, [some (.ref 27), some (.int a), some (.int b), some (.int x3), some (.int x4), some (.int x5), some (.int x6)], [.int x6, .ref 12, .int 1, .int x3], σ3)) rfl ?_
        refine PW.iald (n := 12) (ins_l hw_37 rfl) rfl (idx_in hb1.1 hb1.2).1 ?_
        refine PW.runs hw_37 rfl 6 (q := (93, [some (.ref 27), some (.int a), some (.int b), some (.int x3), some (.int x4), some (.int x5), some (.int x6)], [.int (σ3 12 (Int32.toNatClampNeg x6)), .int 1, .int x3], σ3)) (q' := (104, [some (.ref 27), some (.int a), some (.int b), some (.int x3), some (.int x4), some (.int x5), some (.int x6)], [.int x6, .ref 13, .int 1, .int (1 <<< ((σ3 12 (Int32.toNatClampNeg x6)) &&& 31)), .int x3], σ3)) rfl ?_
        refine PW.iald (n := 12) (ins_l hw_37 rfl) rfl (idx_in hb1.1 hb1.2).1 ?_
        refine PW.runs hw_37 rfl 8 (q := (105, [some (.ref 27), some (.int a), some (.int b), some (.int x3), some (.int x4), some (.int x5), some (.int x6)], [.int (σ3 13 (Int32.toNatClampNeg x6)), .int 1, .int (1 <<< ((σ3 12 (Int32.toNatClampNeg x6)) &&& 31)), .int x3], σ3)) (q' := (28, [some (.ref 27), some (.int a), some (.int b), some (.int (x3 ||| ((1 <<< ((σ3 12 (Int32.toNatClampNeg x6)) &&& 31)) ||| (1 <<< ((σ3 13 (Int32.toNatClampNeg x6)) &&& 31))))), some (.int 1), some (.int x5), some (.int (x6 + 1))], [], σ3)) rfl ?_
        exact h
theorem hw_74 : pins.getD 74 [] = pi_74 := rfl
/-! MapDuty.cutOff.(I)I -/
set_option maxRecDepth 20000 in
theorem w_74 {a : Int32} {σ : St} {K : Int32 → St → Prop} (h : CI 84 [.ref 0, .int a] σ (fun v1 σ1 => (if v1 = 0 then K (-1000000001) σ1 else CI 94 [.int (σ1 11 0)] σ1 (fun v2 σ2 => CI 37 [.ref 27, .int (σ2 19 0), .int a] σ2 (fun v3 σ3 => K (v2 &&& (v3 ^^^ (-1))) σ3))))) : CI 74 [.ref 0, .int a] σ K := by
  show PW none 74 0 [some (.ref 0), some (.int a)] [] σ _
  refine PW.runs hw_74 rfl 2 (q := (0, [some (.ref 0), some (.int a)], [], σ)) (q' := (2, [some (.ref 0), some (.int a)], [.int a, .ref 0], σ)) rfl ?_
  refine PW.callV (b := 0) (vs := [.int a]) (rest := []) (ins_l hw_74 rfl) rfl rfl rfl (Nat.le_of_ble_eq_true rfl) (Nat.le_of_ble_eq_true rfl) (PW.mono h ?_)
  rintro _ σ1 ⟨v1, rfl, h⟩
  show PW none 74 5 [some (.ref 0), some (.int a)] [.int v1] σ1 _
  refine PW.ifc (t := 11) (ins_l hw_74 rfl) rfl (fun hc1 => ?_) (fun hc1 => ?_)
  · replace h := (if_neg (c_neT hc1)).mp h
    refine PW.runs hw_74 rfl 3 (q := (11, [some (.ref 0), some (.int a)], [], σ1)) (q' := (18, [some (.ref 0), some (.int a)], [.int (σ1 11 0)], σ1)) rfl ?_
    refine PW.callS (vs := [.int (σ1 11 0)]) (rest := []) (ins_l hw_74 rfl) rfl (Or.inl rfl) rfl (Nat.le_of_ble_eq_true rfl) (Nat.le_of_ble_eq_true rfl) (PW.mono h ?_)
    rintro _ σ2 ⟨v2, rfl, h⟩
    show PW none 74 21 [some (.ref 0), some (.int a)] [.int v2] σ2 _
    refine PW.runs hw_74 rfl 6 (q := (21, [some (.ref 0), some (.int a)], [.int v2], σ2)) (q' := (33, [some (.ref 0), some (.int a)], [.int a, .int (σ2 19 0), .ref 27, .int v2], σ2)) rfl ?_
    refine PW.callV (b := 27) (vs := [.int (σ2 19 0), .int a]) (rest := [.int v2]) (ins_l hw_74 rfl) rfl rfl rfl (Nat.le_of_ble_eq_true rfl) (Nat.le_of_ble_eq_true rfl) (PW.mono h ?_)
    rintro _ σ3 ⟨v3, rfl, h⟩
    show PW none 74 36 [some (.ref 0), some (.int a)] [.int v3, .int v2] σ3 _
    refine PW.runs hw_74 rfl 3 (q := (36, [some (.ref 0), some (.int a)], [.int v3, .int v2], σ3)) (q' := (39, [some (.ref 0), some (.int a)], [.int (v2 &&& (v3 ^^^ (-1)))], σ3)) rfl ?_
    exact PW.iret (ins_l hw_74 rfl) (Or.inl rfl) ⟨_, rfl, h⟩
  · replace h := (if_pos (c_neF hc1)).mp h
    refine PW.runs hw_74 rfl 1 (q := (8, [some (.ref 0), some (.int a)], [], σ1)) (q' := (10, [some (.ref 0), some (.int a)], [.int (-1000000001)], σ1)) rfl ?_
    exact PW.iret (ins_l hw_74 rfl) (Or.inl rfl) ⟨_, rfl, h⟩
theorem hw_139 : pins.getD 139 [] = pi_139 := rfl
/-! MapDutyModel.reach.(II)I -/
set_option maxRecDepth 20000 in
theorem w_139 {a : Int32} {b : Int32} {σ : St} {K : Int32 → St → Prop} (h : PI 139 7 [some (.ref 39), some (.int a), some (.int b), some (.int (1 <<< (a &&& 31))), some (.int 0), none, none] [] σ K) : CI 139 [.ref 39, .int a, .int b] σ K := by
  show PW none 139 0 [some (.ref 39), some (.int a), some (.int b), none, none, none, none] [] σ _
  refine PW.runs hw_139 rfl 6 (q := (0, [some (.ref 39), some (.int a), some (.int b), none, none, none, none], [], σ)) (q' := (7, [some (.ref 39), some (.int a), some (.int b), some (.int (1 <<< (a &&& 31))), some (.int 0), none, none], [], σ)) rfl ?_
  exact h
set_option maxRecDepth 20000 in
theorem w_139_7 {a : Int32} {b : Int32} {x3 : Int32} {x4 : Int32} {o5 : Option Value} {o6 : Option Value} {σ : St} {K : Int32 → St → Prop} (h : (if (σ 39 0) ≤ x4 then K x3 σ else PI 139 19 [some (.ref 39), some (.int a), some (.int b), some (.int x3), some (.int x4), some (.int 0), o6] [] σ K)) : PI 139 7 [some (.ref 39), some (.int a), some (.int b), some (.int x3), some (.int x4), o5, o6] [] σ K := by
  show PW none 139 7 [some (.ref 39), some (.int a), some (.int b), some (.int x3), some (.int x4), o5, o6] [] σ _
  refine PW.runs hw_139 rfl 3 (q := (7, [some (.ref 39), some (.int a), some (.int b), some (.int x3), some (.int x4), o5, o6], [], σ)) (q' := (13, [some (.ref 39), some (.int a), some (.int b), some (.int x3), some (.int x4), o5, o6], [.int (σ 39 0), .int x4], σ)) rfl ?_
  refine PW.icm (t := 115) (ins_l hw_139 rfl) rfl (fun hc1 => ?_) (fun hc1 => ?_)
  · replace h := (if_pos (c_geT hc1)).mp h
    refine PW.runs hw_139 rfl 1 (q := (115, [some (.ref 39), some (.int a), some (.int b), some (.int x3), some (.int x4), o5, o6], [], σ)) (q' := (116, [some (.ref 39), some (.int a), some (.int b), some (.int x3), some (.int x4), o5, o6], [.int x3], σ)) rfl ?_
    exact PW.iret (ins_l hw_139 rfl) (Or.inl rfl) ⟨_, rfl, h⟩
  · replace h := (if_neg (c_geF hc1)).mp h
    refine PW.runs hw_139 rfl 2 (q := (16, [some (.ref 39), some (.int a), some (.int b), some (.int x3), some (.int x4), o5, o6], [], σ)) (q' := (19, [some (.ref 39), some (.int a), some (.int b), some (.int x3), some (.int x4), some (.int 0), o6], [], σ)) rfl ?_
    exact h
set_option maxRecDepth 20000 in
theorem w_139_19 {a : Int32} {b : Int32} {x3 : Int32} {x4 : Int32} {x5 : Int32} {o6 : Option Value} {σ : St} {K : Int32 → St → Prop} (h : (if (σ 39 1) ≤ x5 then PI 139 7 [some (.ref 39), some (.int a), some (.int b), some (.int x3), some (.int (x4 + 1)), some (.int x5), o6] [] σ K else CI 110 [.int b, .int x5] σ (fun v1 σ1 => (if v1 = 0 then PI 139 19 [some (.ref 39), some (.int a), some (.int b), some (.int (x3 ||| 0)), some (.int x4), some (.int (x5 + 1)), some (.int 0)] [] σ1 K else ((0 ≤ x5.toInt ∧ x5.toInt < 12) ∧ CI 110 [.int x3, .int (σ1 40 (Int32.toNatClampNeg x5))] σ1 (fun v2 σ2 => (if v2 = 0 then CI 110 [.int x3, .int (σ2 41 (Int32.toNatClampNeg x5))] σ2 (fun v3 σ3 => (if v3 = 0 then PI 139 19 [some (.ref 39), some (.int a), some (.int b), some (.int (x3 ||| 0)), some (.int x4), some (.int (x5 + 1)), some (.int 0)] [] σ3 K else PI 139 19 [some (.ref 39), some (.int a), some (.int b), some (.int (x3 ||| ((1 <<< ((σ3 40 (Int32.toNatClampNeg x5)) &&& 31)) ||| (1 <<< ((σ3 41 (Int32.toNatClampNeg x5)) &&& 31))))), some (.int x4), some (.int (x5 + 1)), some (.int 1)] [] σ3 K)) else PI 139 19 [some (.ref 39), some (.int a), some (.int b), some (.int (x3 ||| ((1 <<< ((σ2 40 (Int32.toNatClampNeg x5)) &&& 31)) ||| (1 <<< ((σ2 41 (Int32.toNatClampNeg x5)) &&& 31))))), some (.int x4), some (.int (x5 + 1)), some (.int 1)] [] σ2 K))))))) : PI 139 19 [some (.ref 39), some (.int a), some (.int b), some (.int x3), some (.int x4), some (.int x5), o6] [] σ K := by
  show PW none 139 19 [some (.ref 39), some (.int a), some (.int b), some (.int x3), some (.int x4), some (.int x5), o6] [] σ _
  refine PW.runs hw_139 rfl 3 (q := (19, [some (.ref 39), some (.int a), some (.int b), some (.int x3), some (.int x4), some (.int x5), o6], [], σ)) (q' := (25, [some (.ref 39), some (.int a), some (.int b), some (.int x3), some (.int x4), some (.int x5), o6], [.int (σ 39 1), .int x5], σ)) rfl ?_
  refine PW.icm (t := 109) (ins_l hw_139 rfl) rfl (fun hc1 => ?_) (fun hc1 => ?_)
  · replace h := (if_pos (c_geT hc1)).mp h
    refine PW.runs hw_139 rfl 2 (q := (109, [some (.ref 39), some (.int a), some (.int b), some (.int x3), some (.int x4), some (.int x5), o6], [], σ)) (q' := (7, [some (.ref 39), some (.int a), some (.int b), some (.int x3), some (.int (x4 + 1)), some (.int x5), o6], [], σ)) rfl ?_
    exact h
  · replace h := (if_neg (c_geF hc1)).mp h
    refine PW.runs hw_139 rfl 2 (q := (28, [some (.ref 39), some (.int a), some (.int b), some (.int x3), some (.int x4), some (.int x5), o6], [], σ)) (q' := (31, [some (.ref 39), some (.int a), some (.int b), some (.int x3), some (.int x4), some (.int x5), o6], [.int x5, .int b], σ)) rfl ?_
    refine PW.callS (vs := [.int b, .int x5]) (rest := []) (ins_l hw_139 rfl) rfl (Or.inl rfl) rfl (Nat.le_of_ble_eq_true rfl) (Nat.le_of_ble_eq_true rfl) (PW.mono h ?_)
    rintro _ σ1 ⟨v1, rfl, h⟩
    show PW none 139 34 [some (.ref 39), some (.int a), some (.int b), some (.int x3), some (.int x4), some (.int x5), o6] [.int v1] σ1 _
    refine PW.ifc (t := 69) (ins_l hw_139 rfl) rfl (fun hc2 => ?_) (fun hc2 => ?_)
    · replace h := (if_pos (c_eqT hc2)).mp h
      refine PW.runs hw_139 rfl 4 (q := (69, [some (.ref 39), some (.int a), some (.int b), some (.int x3), some (.int x4), some (.int x5), o6], [], σ1)) (q' := (75, [some (.ref 39), some (.int a), some (.int b), some (.int x3), some (.int x4), some (.int x5), some (.int 0)], [.int 0, .int x3], σ1)) rfl ?_
      refine PW.ifcT (t := 100) (ins_l hw_139 rfl) rfl (by decide) ?_
      refine PW.runs hw_139 rfl 5 (q := (100, [some (.ref 39), some (.int a), some (.int b), some (.int x3), some (.int x4), some (.int x5), some (.int 0)], [.int x3], σ1)) (q' := (19, [some (.ref 39), some (.int a), some (.int b), some (.int (x3 ||| 0)), some (.int x4), some (.int (x5 + 1)), some (.int 0)], [], σ1)) rfl ?_
      exact h
    · replace h := (if_neg (c_eqF hc2)).mp h
      refine PW.runs hw_139 rfl 4 (q := (37, [some (.ref 39), some (.int a), some (.int b), some (.int x3), some (.int x4), some (.int x5), o6], [], σ1)) (q' := (44, [some (.ref 39), some (.int a), some (.int b), some (.int x3), some (.int x4), some (.int x5), o6], [.int x5, .ref 40, .int x3], σ1)) rfl ?_
      obtain ⟨hb1, h⟩ := h
      refine PW.iald (n := 12) (ins_l hw_139 rfl) rfl (idx_in hb1.1 hb1.2).1 ?_
      refine PW.callS (vs := [.int x3, .int (σ1 40 (Int32.toNatClampNeg x5))]) (rest := []) (ins_l hw_139 rfl) rfl (Or.inl rfl) rfl (Nat.le_of_ble_eq_true rfl) (Nat.le_of_ble_eq_true rfl) (PW.mono h ?_)
      rintro _ σ2 ⟨v2, rfl, h⟩
      show PW none 139 48 [some (.ref 39), some (.int a), some (.int b), some (.int x3), some (.int x4), some (.int x5), o6] [.int v2] σ2 _
      refine PW.ifc (t := 65) (ins_l hw_139 rfl) rfl (fun hc3 => ?_) (fun hc3 => ?_)
      · replace h := (if_neg (c_neT hc3)).mp h
        refine PW.runs hw_139 rfl 5 (q := (65, [some (.ref 39), some (.int a), some (.int b), some (.int x3), some (.int x4), some (.int x5), o6], [], σ2)) (q' := (75, [some (.ref 39), some (.int a), some (.int b), some (.int x3), some (.int x4), some (.int x5), some (.int 1)], [.int 1, .int x3], σ2)) rfl ?_
        refine PW.ifcF (t := 100) (ins_l hw_139 rfl) rfl (by decide) ?_
        refine PW.runs hw_139 rfl 4 (q := (78, [some (.ref 39), some (.int a), some (.int b), some (.int x3), some (.int x4), some (.int x5), some (.int 1)], [.int x3], σ2)) (q' := (85, [some (.ref 39), some (.int a), some (.int b), some (.int x3), some (.int x4), some (.int x5), some (.int 1)], [.int x5, .ref 40, .int 1, .int x3], σ2)) rfl ?_
        refine PW.iald (n := 12) (ins_l hw_139 rfl) rfl (idx_in hb1.1 hb1.2).1 ?_
        refine PW.runs hw_139 rfl 5 (q := (86, [some (.ref 39), some (.int a), some (.int b), some (.int x3), some (.int x4), some (.int x5), some (.int 1)], [.int (σ2 40 (Int32.toNatClampNeg x5)), .int 1, .int x3], σ2)) (q' := (94, [some (.ref 39), some (.int a), some (.int b), some (.int x3), some (.int x4), some (.int x5), some (.int 1)], [.int x5, .ref 41, .int 1, .int (1 <<< ((σ2 40 (Int32.toNatClampNeg x5)) &&& 31)), .int x3], σ2)) rfl ?_
        refine PW.iald (n := 12) (ins_l hw_139 rfl) rfl (idx_in hb1.1 hb1.2).1 ?_
        refine PW.runs hw_139 rfl 7 (q := (95, [some (.ref 39), some (.int a), some (.int b), some (.int x3), some (.int x4), some (.int x5), some (.int 1)], [.int (σ2 41 (Int32.toNatClampNeg x5)), .int 1, .int (1 <<< ((σ2 40 (Int32.toNatClampNeg x5)) &&& 31)), .int x3], σ2)) (q' := (19, [some (.ref 39), some (.int a), some (.int b), some (.int (x3 ||| ((1 <<< ((σ2 40 (Int32.toNatClampNeg x5)) &&& 31)) ||| (1 <<< ((σ2 41 (Int32.toNatClampNeg x5)) &&& 31))))), some (.int x4), some (.int (x5 + 1)), some (.int 1)], [], σ2)) rfl ?_
        exact h
      · replace h := (if_pos (c_neF hc3)).mp h
        refine PW.runs hw_139 rfl 4 (q := (51, [some (.ref 39), some (.int a), some (.int b), some (.int x3), some (.int x4), some (.int x5), o6], [], σ2)) (q' := (58, [some (.ref 39), some (.int a), some (.int b), some (.int x3), some (.int x4), some (.int x5), o6], [.int x5, .ref 41, .int x3], σ2)) rfl ?_
        refine PW.iald (n := 12) (ins_l hw_139 rfl) rfl (idx_in hb1.1 hb1.2).1 ?_
        refine PW.callS (vs := [.int x3, .int (σ2 41 (Int32.toNatClampNeg x5))]) (rest := []) (ins_l hw_139 rfl) rfl (Or.inl rfl) rfl (Nat.le_of_ble_eq_true rfl) (Nat.le_of_ble_eq_true rfl) (PW.mono h ?_)
        rintro _ σ3 ⟨v3, rfl, h⟩
        show PW none 139 62 [some (.ref 39), some (.int a), some (.int b), some (.int x3), some (.int x4), some (.int x5), o6] [.int v3] σ3 _
        refine PW.ifc (t := 69) (ins_l hw_139 rfl) rfl (fun hc4 => ?_) (fun hc4 => ?_)
        · replace h := (if_pos (c_eqT hc4)).mp h
          refine PW.runs hw_139 rfl 4 (q := (69, [some (.ref 39), some (.int a), some (.int b), some (.int x3), some (.int x4), some (.int x5), o6], [], σ3)) (q' := (75, [some (.ref 39), some (.int a), some (.int b), some (.int x3), some (.int x4), some (.int x5), some (.int 0)], [.int 0, .int x3], σ3)) rfl ?_
          refine PW.ifcT (t := 100) (ins_l hw_139 rfl) rfl (by decide) ?_
          refine PW.runs hw_139 rfl 5 (q := (100, [some (.ref 39), some (.int a), some (.int b), some (.int x3), some (.int x4), some (.int x5), some (.int 0)], [.int x3], σ3)) (q' := (19, [some (.ref 39), some (.int a), some (.int b), some (.int (x3 ||| 0)), some (.int x4), some (.int (x5 + 1)), some (.int 0)], [], σ3)) rfl ?_
          exact h
        · replace h := (if_neg (c_eqF hc4)).mp h
          refine PW.runs hw_139 rfl 5 (q := (65, [some (.ref 39), some (.int a), some (.int b), some (.int x3), some (.int x4), some (.int x5), o6], [], σ3)) (q' := (75, [some (.ref 39), some (.int a), some (.int b), some (.int x3), some (.int x4), some (.int x5), some (.int 1)], [.int 1, .int x3], σ3)) rfl ?_
          refine PW.ifcF (t := 100) (ins_l hw_139 rfl) rfl (by decide) ?_
          refine PW.runs hw_139 rfl 4 (q := (78, [some (.ref 39), some (.int a), some (.int b), some (.int x3), some (.int x4), some (.int x5), some (.int 1)], [.int x3], σ3)) (q' := (85, [some (.ref 39), some (.int a), some (.int b), some (.int x3), some (.int x4), some (.int x5), some (.int 1)], [.int x5, .ref 40, .int 1, .int x3], σ3)) rfl ?_
          refine PW.iald (n := 12) (ins_l hw_139 rfl) rfl (idx_in hb1.1 hb1.2).1 ?_
          refine PW.runs hw_139 rfl 5 (q := (86, [some (.ref 39), some (.int a), some (.int b), some (.int x3), some (.int x4), some (.int x5), some (.int 1)], [.int (σ3 40 (Int32.toNatClampNeg x5)), .int 1, .int x3], σ3)) (q' := (94, [some (.ref 39), some (.int a), some (.int b), some (.int x3), some (.int x4), some (.int x5), some (.int 1)], [.int x5, .ref 41, .int 1, .int (1 <<< ((σ3 40 (Int32.toNatClampNeg x5)) &&& 31)), .int x3], σ3)) rfl ?_
          refine PW.iald (n := 12) (ins_l hw_139 rfl) rfl (idx_in hb1.1 hb1.2).1 ?_
          refine PW.runs hw_139 rfl 7 (q := (95, [some (.ref 39), some (.int a), some (.int b), some (.int x3), some (.int x4), some (.int x5), some (.int 1)], [.int (σ3 41 (Int32.toNatClampNeg x5)), .int 1, .int (1 <<< ((σ3 40 (Int32.toNatClampNeg x5)) &&& 31)), .int x3], σ3)) (q' := (19, [some (.ref 39), some (.int a), some (.int b), some (.int (x3 ||| ((1 <<< ((σ3 40 (Int32.toNatClampNeg x5)) &&& 31)) ||| (1 <<< ((σ3 41 (Int32.toNatClampNeg x5)) &&& 31))))), some (.int x4), some (.int (x5 + 1)), some (.int 1)], [], σ3)) rfl ?_
          exact h
theorem hw_140 : pins.getD 140 [] = pi_140 := rfl
/-! MapDutyModel.isWay.(III)Z -/
set_option maxRecDepth 20000 in
theorem w_140 {a : Int32} {b : Int32} {c : Int32} {σ : St} {K : Int32 → St → Prop} (h : CI 139 [.ref 39, .int a, .int c] σ (fun v1 σ1 => CI 110 [.int v1, .int b] σ1 (fun v2 σ2 => ((v2 = 0 ∨ v2 = 1) ∧ K v2 σ2)))) : CI 140 [.ref 39, .int a, .int b, .int c] σ K := by
  show PW none 140 0 [some (.ref 39), some (.int a), some (.int b), some (.int c)] [] σ _
  refine PW.runs hw_140 rfl 3 (q := (0, [some (.ref 39), some (.int a), some (.int b), some (.int c)], [], σ)) (q' := (3, [some (.ref 39), some (.int a), some (.int b), some (.int c)], [.int c, .int a, .ref 39], σ)) rfl ?_
  refine PW.callV (b := 39) (vs := [.int a, .int c]) (rest := []) (ins_l hw_140 rfl) rfl rfl rfl (Nat.le_of_ble_eq_true rfl) (Nat.le_of_ble_eq_true rfl) (PW.mono h ?_)
  rintro _ σ1 ⟨v1, rfl, h⟩
  show PW none 140 6 [some (.ref 39), some (.int a), some (.int b), some (.int c)] [.int v1] σ1 _
  refine PW.runs hw_140 rfl 1 (q := (6, [some (.ref 39), some (.int a), some (.int b), some (.int c)], [.int v1], σ1)) (q' := (7, [some (.ref 39), some (.int a), some (.int b), some (.int c)], [.int b, .int v1], σ1)) rfl ?_
  refine PW.callS (vs := [.int v1, .int b]) (rest := []) (ins_l hw_140 rfl) rfl (Or.inl rfl) rfl (Nat.le_of_ble_eq_true rfl) (Nat.le_of_ble_eq_true rfl) (PW.mono h ?_)
  rintro _ σ2 ⟨v2, rfl, h⟩
  show PW none 140 10 [some (.ref 39), some (.int a), some (.int b), some (.int c)] [.int v2] σ2 _
  exact PW.iret (ins_l hw_140 rfl) (Or.inr ⟨rfl, h.1⟩) ⟨_, rfl, h.2⟩
theorem hw_180 : pins.getD 180 [] = pi_180 := rfl
/-! MapDutyModel.cutOff.(I)I -/
set_option maxRecDepth 20000 in
theorem w_180 {a : Int32} {σ : St} {K : Int32 → St → Prop} (h : CI 112 [.ref 39, .int a] σ (fun v1 σ1 => (if v1 = 0 then K (-1000000001) σ1 else CI 139 [.ref 39, .int a, .int (σ1 46 10)] σ1 (fun v2 σ2 => K (((1 <<< ((σ1 39 0) &&& 31)) - 1) &&& (v2 ^^^ (-1))) σ2)))) : CI 180 [.ref 39, .int a] σ K := by
  show PW none 180 0 [some (.ref 39), some (.int a)] [] σ _
  refine PW.runs hw_180 rfl 2 (q := (0, [some (.ref 39), some (.int a)], [], σ)) (q' := (2, [some (.ref 39), some (.int a)], [.int a, .ref 39], σ)) rfl ?_
  refine PW.callV (b := 39) (vs := [.int a]) (rest := []) (ins_l hw_180 rfl) rfl rfl rfl (Nat.le_of_ble_eq_true rfl) (Nat.le_of_ble_eq_true rfl) (PW.mono h ?_)
  rintro _ σ1 ⟨v1, rfl, h⟩
  show PW none 180 5 [some (.ref 39), some (.int a)] [.int v1] σ1 _
  refine PW.ifc (t := 34) (ins_l hw_180 rfl) rfl (fun hc1 => ?_) (fun hc1 => ?_)
  · replace h := (if_pos (c_eqT hc1)).mp h
    refine PW.runs hw_180 rfl 1 (q := (34, [some (.ref 39), some (.int a)], [], σ1)) (q' := (36, [some (.ref 39), some (.int a)], [.int (-1000000001)], σ1)) rfl ?_
    exact PW.iret (ins_l hw_180 rfl) (Or.inl rfl) ⟨_, rfl, h⟩
  · replace h := (if_neg (c_eqF hc1)).mp h
    refine PW.runs hw_180 rfl 11 (q := (8, [some (.ref 39), some (.int a)], [], σ1)) (q' := (24, [some (.ref 39), some (.int a)], [.int 10, .ref 46, .int a, .ref 39, .int ((1 <<< ((σ1 39 0) &&& 31)) - 1)], σ1)) rfl ?_
    refine PW.iald (n := 14) (ins_l hw_180 rfl) rfl (by decide) ?_
    refine PW.callV (b := 39) (vs := [.int a, .int (σ1 46 10)]) (rest := [.int ((1 <<< ((σ1 39 0) &&& 31)) - 1)]) (ins_l hw_180 rfl) rfl rfl rfl (Nat.le_of_ble_eq_true rfl) (Nat.le_of_ble_eq_true rfl) (PW.mono h ?_)
    rintro _ σ2 ⟨v2, rfl, h⟩
    show PW none 180 28 [some (.ref 39), some (.int a)] [.int v2, .int ((1 <<< ((σ1 39 0) &&& 31)) - 1)] σ2 _
    refine PW.runs hw_180 rfl 4 (q := (28, [some (.ref 39), some (.int a)], [.int v2, .int ((1 <<< ((σ1 39 0) &&& 31)) - 1)], σ2)) (q' := (36, [some (.ref 39), some (.int a)], [.int (((1 <<< ((σ1 39 0) &&& 31)) - 1) &&& (v2 ^^^ (-1)))], σ2)) rfl ?_
    exact PW.iret (ins_l hw_180 rfl) (Or.inl rfl) ⟨_, rfl, h⟩
