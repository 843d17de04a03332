/-! code: told, map -/
theorem hw_44 : pins.getD 44 [] = pi_44 := rfl
/-! MapDuty$Roads.bridges.(I)I -/
set_option maxRecDepth 20000 in
theorem w_44 {a : Int32} {σ : St} {K : Int32 → St → Prop} (h : PI 44 4 [some (.ref 27), some (.int a), some (.int 0), some (.int 0)] [] σ K) : CI 44 [.ref 27, .int a] σ K := by
  show PW none 44 0 [some (.ref 27), some (.int a), none, none] [] σ _
  refine PW.runs hw_44 rfl 4 (q := (0, [some (.ref 27), some (.int a), none, none], [], σ)) (q' := (4, [some (.ref 27), some (.int a), some (.int 0), some (.int 0)], [], σ)) rfl ?_
  exact h
set_option maxRecDepth 20000 in
theorem w_44_4 {a : Int32} {x2 : Int32} {x3 : Int32} {σ : St} {K : Int32 → St → Prop} (h : (if (σ 11 1) ≤ x3 then K x2 σ else CI 92 [.int a, .int x3] σ (fun v1 σ1 => (if v1 = 1 then ((0 ≤ x3.toInt ∧ x3.toInt < 12) ∧ CI 37 [.ref 27, .int (a ^^^ (1 <<< (x3 &&& 31))), .int (σ1 12 (Int32.toNatClampNeg x3))] σ1 (fun v2 σ2 => CI 92 [.int v2, .int (σ2 13 (Int32.toNatClampNeg x3))] σ2 (fun v3 σ3 => (if v3 = 0 then PI 44 4 [some (.ref 27), some (.int a), some (.int (x2 ||| (1 <<< (x3 &&& 31)))), some (.int (x3 + 1))] [] σ3 K else PI 44 4 [some (.ref 27), some (.int a), some (.int x2), some (.int (x3 + 1))] [] σ3 K)))) else PI 44 4 [some (.ref 27), some (.int a), some (.int x2), some (.int (x3 + 1))] [] σ1 K)))) : PI 44 4 [some (.ref 27), some (.int a), some (.int x2), some (.int x3)] [] σ K := by
  show PW none 44 4 [some (.ref 27), some (.int a), some (.int x2), some (.int x3)] [] σ _
  refine PW.runs hw_44 rfl 4 (q := (4, [some (.ref 27), some (.int a), some (.int x2), some (.int x3)], [], σ)) (q' := (12, [some (.ref 27), some (.int a), some (.int x2), some (.int x3)], [.int (σ 11 1), .int x3], σ)) rfl ?_
  refine PW.icm (t := 69) (ins_l hw_44 rfl) rfl (fun hc1 => ?_) (fun hc1 => ?_)
  · replace h := (if_pos (c_geT hc1)).mp h
    refine PW.runs hw_44 rfl 1 (q := (69, [some (.ref 27), some (.int a), some (.int x2), some (.int x3)], [], σ)) (q' := (70, [some (.ref 27), some (.int a), some (.int x2), some (.int x3)], [.int x2], σ)) rfl ?_
    exact PW.iret (ins_l hw_44 rfl) (Or.inl rfl) ⟨_, rfl, h⟩
  · replace h := (if_neg (c_geF hc1)).mp h
    refine PW.runs hw_44 rfl 2 (q := (15, [some (.ref 27), some (.int a), some (.int x2), some (.int x3)], [], σ)) (q' := (17, [some (.ref 27), some (.int a), some (.int x2), some (.int x3)], [.int x3, .int a], σ)) rfl ?_
    refine PW.callS (vs := [.int a, .int x3]) (rest := []) (ins_l hw_44 rfl) rfl (Or.inr rfl) rfl (Nat.le_of_ble_eq_true rfl) (Nat.le_of_ble_eq_true rfl) (PW.mono h ?_)
    rintro _ σ1 ⟨v1, rfl, h⟩
    show PW none 44 20 [some (.ref 27), some (.int a), some (.int x2), some (.int x3)] [.int v1] σ1 _
    refine PW.runs hw_44 rfl 1 (q := (20, [some (.ref 27), some (.int a), some (.int x2), some (.int x3)], [.int v1], σ1)) (q' := (21, [some (.ref 27), some (.int a), some (.int x2), some (.int x3)], [.int 1, .int v1], σ1)) rfl ?_
    refine PW.icm (t := 63) (ins_l hw_44 rfl) rfl (fun hc2 => ?_) (fun hc2 => ?_)
    · replace h := (if_neg (c_neT hc2)).mp h
      refine PW.runs hw_44 rfl 2 (q := (63, [some (.ref 27), some (.int a), some (.int x2), some (.int x3)], [], σ1)) (q' := (4, [some (.ref 27), some (.int a), some (.int x2), some (.int (x3 + 1))], [], σ1)) rfl ?_
      exact h
    · replace h := (if_pos (c_neF hc2)).mp h
      refine PW.runs hw_44 rfl 10 (q := (24, [some (.ref 27), some (.int a), some (.int x2), some (.int x3)], [], σ1)) (q' := (38, [some (.ref 27), some (.int a), some (.int x2), some (.int x3)], [.int x3, .ref 12, .int (a ^^^ (1 <<< (x3 &&& 31))), .ref 27], σ1)) rfl ?_
      obtain ⟨hb1, h⟩ := h
      refine PW.iald (n := 12) (ins_l hw_44 rfl) rfl (idx_in hb1.1 hb1.2).1 ?_
      refine PW.callV (b := 27) (vs := [.int (a ^^^ (1 <<< (x3 &&& 31))), .int (σ1 12 (Int32.toNatClampNeg x3))]) (rest := []) (ins_l hw_44 rfl) rfl rfl rfl (Nat.le_of_ble_eq_true rfl) (Nat.le_of_ble_eq_true rfl) (PW.mono h ?_)
      rintro _ σ2 ⟨v2, rfl, h⟩
      show PW none 44 42 [some (.ref 27), some (.int a), some (.int x2), some (.int x3)] [.int v2] σ2 _
      refine PW.runs hw_44 rfl 4 (q := (42, [some (.ref 27), some (.int a), some (.int x2), some (.int x3)], [.int v2], σ2)) (q' := (50, [some (.ref 27), some (.int a), some (.int x2), some (.int x3)], [.int x3, .ref 13, .int v2], σ2)) rfl ?_
      refine PW.iald (n := 12) (ins_l hw_44 rfl) rfl (idx_in hb1.1 hb1.2).1 ?_
      refine PW.callS (vs := [.int v2, .int (σ2 13 (Int32.toNatClampNeg x3))]) (rest := []) (ins_l hw_44 rfl) rfl (Or.inr rfl) rfl (Nat.le_of_ble_eq_true rfl) (Nat.le_of_ble_eq_true rfl) (PW.mono h ?_)
      rintro _ σ3 ⟨v3, rfl, h⟩
      show PW none 44 54 [some (.ref 27), some (.int a), some (.int x2), some (.int x3)] [.int v3] σ3 _
      refine PW.ifc (t := 63) (ins_l hw_44 rfl) rfl (fun hc3 => ?_) (fun hc3 => ?_)
      · replace h := (if_neg (c_neT hc3)).mp h
        refine PW.runs hw_44 rfl 2 (q := (63, [some (.ref 27), some (.int a), some (.int x2), some (.int x3)], [], σ3)) (q' := (4, [some (.ref 27), some (.int a), some (.int x2), some (.int (x3 + 1))], [], σ3)) rfl ?_
        exact h
      · replace h := (if_pos (c_neF hc3)).mp h
        refine PW.runs hw_44 rfl 8 (q := (57, [some (.ref 27), some (.int a), some (.int x2), some (.int x3)], [], σ3)) (q' := (4, [some (.ref 27), some (.int a), some (.int (x2 ||| (1 <<< (x3 &&& 31)))), some (.int (x3 + 1))], [], σ3)) rfl ?_
        exact h
theorem hw_45 : pins.getD 45 [] = pi_45 := rfl
/-! MapDuty$Roads.lostPairs.(II)I -/
set_option maxRecDepth 20000 in
theorem w_45 {a : Int32} {b : Int32} {σ : St} {K : Int32 → St → Prop} (h : PI 45 5 [some (.ref 27), some (.int a), some (.int b), some (.int 0), some (.int 0), none] [] σ K) : CI 45 [.ref 27, .int a, .int b] σ K := by
  show PW none 45 0 [some (.ref 27), some (.int a), some (.int b), none, none, none] [] σ _
  refine PW.runs hw_45 rfl 4 (q := (0, [some (.ref 27), some (.int a), some (.int b), none, none, none], [], σ)) (q' := (5, [some (.ref 27), some (.int a), some (.int b), some (.int 0), some (.int 0), none], [], σ)) rfl ?_
  exact h
set_option maxRecDepth 20000 in
theorem w_45_5 {a : Int32} {b : Int32} {x3 : Int32} {x4 : Int32} {o5 : Option Value} {σ : St} {K : Int32 → St → Prop} (h : (if (σ 11 0) ≤ x4 then K x3 σ else CI 37 [.ref 27, .int a, .int x4] σ (fun v1 σ1 => CI 37 [.ref 27, .int b, .int x4] σ1 (fun v2 σ2 => CI 192 [.int (ush (v1 &&& (v2 ^^^ (-1))) (x4 + 1))] σ2 (fun v3 σ3 => PI 45 5 [some (.ref 27), some (.int a), some (.int b), some (.int (x3 + v3)), some (.int (x4 + 1)), some (.int (v1 &&& (v2 ^^^ (-1))))] [] σ3 K))))) : PI 45 5 [some (.ref 27), some (.int a), some (.int b), some (.int x3), some (.int x4), o5] [] σ K := by
  show PW none 45 5 [some (.ref 27), some (.int a), some (.int b), some (.int x3), some (.int x4), o5] [] σ _
  refine PW.runs hw_45 rfl 4 (q := (5, [some (.ref 27), some (.int a), some (.int b), some (.int x3), some (.int x4), o5], [], σ)) (q' := (14, [some (.ref 27), some (.int a), some (.int b), some (.int x3), some (.int x4), o5], [.int (σ 11 0), .int x4], σ)) rfl ?_
  refine PW.icm (t := 55) (ins_l hw_45 rfl) rfl (fun hc1 => ?_) (fun hc1 => ?_)
  · replace h := (if_pos (c_geT hc1)).mp h
    refine PW.runs hw_45 rfl 1 (q := (55, [some (.ref 27), some (.int a), some (.int b), some (.int x3), some (.int x4), o5], [], σ)) (q' := (56, [some (.ref 27), some (.int a), some (.int b), some (.int x3), some (.int x4), o5], [.int x3], σ)) rfl ?_
    exact PW.iret (ins_l hw_45 rfl) (Or.inl rfl) ⟨_, rfl, h⟩
  · replace h := (if_neg (c_geF hc1)).mp h
    refine PW.runs hw_45 rfl 3 (q := (17, [some (.ref 27), some (.int a), some (.int b), some (.int x3), some (.int x4), o5], [], σ)) (q' := (21, [some (.ref 27), some (.int a), some (.int b), some (.int x3), some (.int x4), o5], [.int x4, .int a, .ref 27], σ)) rfl ?_
    refine PW.callV (b := 27) (vs := [.int a, .int x4]) (rest := []) (ins_l hw_45 rfl) rfl rfl rfl (Nat.le_of_ble_eq_true rfl) (Nat.le_of_ble_eq_true rfl) (PW.mono h ?_)
    rintro _ σ1 ⟨v1, rfl, h⟩
    show PW none 45 24 [some (.ref 27), some (.int a), some (.int b), some (.int x3), some (.int x4), o5] [.int v1] σ1 _
    refine PW.runs hw_45 rfl 3 (q := (24, [some (.ref 27), some (.int a), some (.int b), some (.int x3), some (.int x4), o5], [.int v1], σ1)) (q' := (28, [some (.ref 27), some (.int a), some (.int b), some (.int x3), some (.int x4), o5], [.int x4, .int b, .ref 27, .int v1], σ1)) rfl ?_
    refine PW.callV (b := 27) (vs := [.int b, .int x4]) (rest := [.int v1]) (ins_l hw_45 rfl) rfl rfl rfl (Nat.le_of_ble_eq_true rfl) (Nat.le_of_ble_eq_true rfl) (PW.mono h ?_)
    rintro _ σ2 ⟨v2, rfl, h⟩
    show PW none 45 31 [some (.ref 27), some (.int a), some (.int b), some (.int x3), some (.int x4), o5] [.int v2, .int v1] σ2 _
    refine PW.runs hw_45 rfl 10 (q := (31, [some (.ref 27), some (.int a), some (.int b), some (.int x3), some (.int x4), o5], [.int v2, .int v1], σ2)) (q' := (44, [some (.ref 27), some (.int a), some (.int b), some (.int x3), some (.int x4), some (.int (v1 &&& (v2 ^^^ (-1))))], [.int (ush (v1 &&& (v2 ^^^ (-1))) (x4 + 1)), .int x3], σ2)) rfl ?_
    refine PW.callS (vs := [.int (ush (v1 &&& (v2 ^^^ (-1))) (x4 + 1))]) (rest := [.int x3]) (ins_l hw_45 rfl) rfl (Or.inl rfl) rfl (Nat.le_of_ble_eq_true rfl) (Nat.le_of_ble_eq_true rfl) (PW.mono h ?_)
    rintro _ σ3 ⟨v3, rfl, h⟩
    show PW none 45 47 [some (.ref 27), some (.int a), some (.int b), some (.int x3), some (.int x4), some (.int (v1 &&& (v2 ^^^ (-1))))] [.int v3, .int x3] σ3 _
    refine PW.runs hw_45 rfl 4 (q := (47, [some (.ref 27), some (.int a), some (.int b), some (.int x3), some (.int x4), some (.int (v1 &&& (v2 ^^^ (-1))))], [.int v3, .int x3], σ3)) (q' := (5, [some (.ref 27), some (.int a), some (.int b), some (.int (x3 + v3)), some (.int (x4 + 1)), some (.int (v1 &&& (v2 ^^^ (-1))))], [], σ3)) rfl ?_
    exact h
theorem hw_46 : pins.getD 46 [] = pi_46 := rfl
/-! MapDuty$Roads.price.(II)I -/
set_option maxRecDepth 20000 in
theorem w_46 {a : Int32} {b : Int32} {σ : St} {K : Int32 → St → Prop} (h : PI 46 5 [some (.ref 27), some (.int a), some (.int b), some (.int 0), some (.int 1), none] [] σ K) : CI 46 [.ref 27, .int a, .int b] σ K := by
  show PW none 46 0 [some (.ref 27), some (.int a), some (.int b), none, none, none] [] σ _
  refine PW.runs hw_46 rfl 4 (q := (0, [some (.ref 27), some (.int a), some (.int b), none, none, none], [], σ)) (q' := (5, [some (.ref 27), some (.int a), some (.int b), some (.int 0), some (.int 1), none], [], σ)) rfl ?_
  exact h
set_option maxRecDepth 20000 in
theorem w_46_5 {a : Int32} {b : Int32} {x3 : Int32} {x4 : Int32} {o5 : Option Value} {σ : St} {K : Int32 → St → Prop} (h : (if (σ 11 0) ≤ x4 then K (if 0 < x3 then x3 else 0) σ else CV 38 [.ref 27, .int a, .int x4] σ (fun σ1 => PI 46 27 [some (.ref 27), some (.int a), some (.int b), some (.int x3), some (.int x4), some (.int 0)] [] σ1 K))) : PI 46 5 [some (.ref 27), some (.int a), some (.int b), some (.int x3), some (.int x4), o5] [] σ K := by
  show PW none 46 5 [some (.ref 27), some (.int a), some (.int b), some (.int x3), some (.int x4), o5] [] σ _
  refine PW.runs hw_46 rfl 4 (q := (5, [some (.ref 27), some (.int a), some (.int b), some (.int x3), some (.int x4), o5], [], σ)) (q' := (14, [some (.ref 27), some (.int a), some (.int b), some (.int x3), some (.int x4), o5], [.int (σ 11 0), .int x4], σ)) rfl ?_
  refine PW.icm (t := 77) (ins_l hw_46 rfl) rfl (fun hc1 => ?_) (fun hc1 => ?_)
  · replace h := (if_pos (c_geT hc1)).mp h
    refine PW.runs hw_46 rfl 2 (q := (77, [some (.ref 27), some (.int a), some (.int b), some (.int x3), some (.int x4), o5], [], σ)) (q' := (79, [some (.ref 27), some (.int a), some (.int b), some (.int x3), some (.int x4), o5], [.int x3, .int 0], σ)) rfl ?_
    refine PW.max (q := (82, [some (.ref 27), some (.int a), some (.int b), some (.int x3), some (.int x4), o5], [.int (if 0 < x3 then x3 else 0)], σ)) (ins_l hw_46 rfl) rfl rfl ?_
    exact PW.iret (ins_l hw_46 rfl) (Or.inl rfl) ⟨_, rfl, h⟩
  · replace h := (if_neg (c_geF hc1)).mp h
    refine PW.runs hw_46 rfl 3 (q := (17, [some (.ref 27), some (.int a), some (.int b), some (.int x3), some (.int x4), o5], [], σ)) (q' := (21, [some (.ref 27), some (.int a), some (.int b), some (.int x3), some (.int x4), o5], [.int x4, .int a, .ref 27], σ)) rfl ?_
    refine PW.callV (b := 27) (vs := [.int a, .int x4]) (rest := []) (ins_l hw_46 rfl) rfl rfl rfl (Nat.le_of_ble_eq_true rfl) (Nat.le_of_ble_eq_true rfl) (PW.mono h ?_)
    rintro _ σ1 ⟨rfl, h⟩
    show PW none 46 24 [some (.ref 27), some (.int a), some (.int b), some (.int x3), some (.int x4), o5] [] σ1 _
    refine PW.runs hw_46 rfl 2 (q := (24, [some (.ref 27), some (.int a), some (.int b), some (.int x3), some (.int x4), o5], [], σ1)) (q' := (27, [some (.ref 27), some (.int a), some (.int b), some (.int x3), some (.int x4), some (.int 0)], [], σ1)) rfl ?_
    exact h
set_option maxRecDepth 20000 in
theorem w_46_27 {a : Int32} {b : Int32} {x3 : Int32} {x4 : Int32} {x5 : Int32} {σ : St} {K : Int32 → St → Prop} (h : (if x4 ≤ x5 then PI 46 5 [some (.ref 27), some (.int a), some (.int b), some (.int x3), some (.int (x4 + 1)), some (.int x5)] [] σ K else ((0 ≤ x5.toInt ∧ x5.toInt < 8) ∧ (if (σ 28 (Int32.toNatClampNeg x5)) = (-1) then PI 46 27 [some (.ref 27), some (.int a), some (.int b), some (.int x3), some (.int x4), some (.int (x5 + 1))] [] σ K else CI 43 [.ref 27, .int a, .int b, .int x5] σ (fun v1 σ1 => (if v1 = (-1) then PI 46 27 [some (.ref 27), some (.int a), some (.int b), some (.int (x3 + 3)), some (.int x4), some (.int (x5 + 1))] [] σ1 K else PI 46 27 [some (.ref 27), some (.int a), some (.int b), some (.int (x3 + (-1))), some (.int x4), some (.int (x5 + 1))] [] σ1 K)))))) : PI 46 27 [some (.ref 27), some (.int a), some (.int b), some (.int x3), some (.int x4), some (.int x5)] [] σ K := by
  show PW none 46 27 [some (.ref 27), some (.int a), some (.int b), some (.int x3), some (.int x4), some (.int x5)] [] σ _
  refine PW.runs hw_46 rfl 2 (q := (27, [some (.ref 27), some (.int a), some (.int b), some (.int x3), some (.int x4), some (.int x5)], [], σ)) (q' := (31, [some (.ref 27), some (.int a), some (.int b), some (.int x3), some (.int x4), some (.int x5)], [.int x4, .int x5], σ)) rfl ?_
  refine PW.icm (t := 71) (ins_l hw_46 rfl) rfl (fun hc1 => ?_) (fun hc1 => ?_)
  · replace h := (if_pos (c_geT hc1)).mp h
    refine PW.runs hw_46 rfl 2 (q := (71, [some (.ref 27), some (.int a), some (.int b), some (.int x3), some (.int x4), some (.int x5)], [], σ)) (q' := (5, [some (.ref 27), some (.int a), some (.int b), some (.int x3), some (.int (x4 + 1)), some (.int x5)], [], σ)) rfl ?_
    exact h
  · replace h := (if_neg (c_geF hc1)).mp h
    refine PW.runs hw_46 rfl 3 (q := (34, [some (.ref 27), some (.int a), some (.int b), some (.int x3), some (.int x4), some (.int x5)], [], σ)) (q' := (40, [some (.ref 27), some (.int a), some (.int b), some (.int x3), some (.int x4), some (.int x5)], [.int x5, .ref 28], σ)) rfl ?_
    obtain ⟨hb1, h⟩ := h
    refine PW.iald (n := 8) (ins_l hw_46 rfl) rfl (idx_in hb1.1 hb1.2).1 ?_
    refine PW.runs hw_46 rfl 1 (q := (41, [some (.ref 27), some (.int a), some (.int b), some (.int x3), some (.int x4), some (.int x5)], [.int (σ 28 (Int32.toNatClampNeg x5))], σ)) (q' := (42, [some (.ref 27), some (.int a), some (.int b), some (.int x3), some (.int x4), some (.int x5)], [.int (-1), .int (σ 28 (Int32.toNatClampNeg x5))], σ)) rfl ?_
    refine PW.icm (t := 65) (ins_l hw_46 rfl) rfl (fun hc2 => ?_) (fun hc2 => ?_)
    · replace h := (if_pos (c_eqT hc2)).mp h
      refine PW.runs hw_46 rfl 2 (q := (65, [some (.ref 27), some (.int a), some (.int b), some (.int x3), some (.int x4), some (.int x5)], [], σ)) (q' := (27, [some (.ref 27), some (.int a), some (.int b), some (.int x3), some (.int x4), some (.int (x5 + 1))], [], σ)) rfl ?_
      exact h
    · replace h := (if_neg (c_eqF hc2)).mp h
      refine PW.runs hw_46 rfl 5 (q := (45, [some (.ref 27), some (.int a), some (.int b), some (.int x3), some (.int x4), some (.int x5)], [], σ)) (q' := (51, [some (.ref 27), some (.int a), some (.int b), some (.int x3), some (.int x4), some (.int x5)], [.int x5, .int b, .int a, .ref 27, .int x3], σ)) rfl ?_
      refine PW.callV (b := 27) (vs := [.int a, .int b, .int x5]) (rest := [.int x3]) (ins_l hw_46 rfl) rfl rfl rfl (Nat.le_of_ble_eq_true rfl) (Nat.le_of_ble_eq_true rfl) (PW.mono h ?_)
      rintro _ σ1 ⟨v1, rfl, h⟩
      show PW none 46 54 [some (.ref 27), some (.int a), some (.int b), some (.int x3), some (.int x4), some (.int x5)] [.int v1, .int x3] σ1 _
      refine PW.runs hw_46 rfl 1 (q := (54, [some (.ref 27), some (.int a), some (.int b), some (.int x3), some (.int x4), some (.int x5)], [.int v1, .int x3], σ1)) (q' := (55, [some (.ref 27), some (.int a), some (.int b), some (.int x3), some (.int x4), some (.int x5)], [.int (-1), .int v1, .int x3], σ1)) rfl ?_
      refine PW.icm (t := 62) (ins_l hw_46 rfl) rfl (fun hc3 => ?_) (fun hc3 => ?_)
      · replace h := (if_neg (c_neT hc3)).mp h
        refine PW.runs hw_46 rfl 5 (q := (62, [some (.ref 27), some (.int a), some (.int b), some (.int x3), some (.int x4), some (.int x5)], [.int x3], σ1)) (q' := (27, [some (.ref 27), some (.int a), some (.int b), some (.int (x3 + (-1))), some (.int x4), some (.int (x5 + 1))], [], σ1)) rfl ?_
        exact h
      · replace h := (if_pos (c_neF hc3)).mp h
        refine PW.runs hw_46 rfl 6 (q := (58, [some (.ref 27), some (.int a), some (.int b), some (.int x3), some (.int x4), some (.int x5)], [.int x3], σ1)) (q' := (27, [some (.ref 27), some (.int a), some (.int b), some (.int (x3 + 3)), some (.int x4), some (.int (x5 + 1))], [], σ1)) rfl ?_
        exact h
theorem hw_57 : pins.getD 57 [] = pi_57 := rfl
/-! MapDuty.told.(I)I -/
set_option maxRecDepth 20000 in
theorem w_57 {a : Int32} {σ : St} {K : Int32 → St → Prop} (h : (if a = 0 then K (σ 11 0) σ else (if a = 1 then K (σ 11 1) σ else (if a = 2 then K (σ 11 2) σ else (if a = 3 then K (σ 11 3) σ else (if a = 4 then K (σ 1 1) σ else (if a = 5 then K (σ 19 1) σ else (if a = 6 then K (σ 19 0) σ else (if a = 7 then K (σ 19 2) σ else (if a = 8 then K (σ 19 3) σ else (if a = 9 then CI 44 [.ref 27, .int (σ 19 0)] σ (fun v1 σ1 => K v1 σ1) else (if a = 10 then CI 98 [.ref 0] σ (fun v2 σ2 => K v2 σ2) else (if a = 11 then CI 99 [.ref 0] σ (fun v3 σ3 => K v3 σ3) else (if a = 12 then K (σ 29 0) σ else (if a = 13 then K (σ 29 1) σ else (if a = 14 then K (σ 24 2) σ else K (-1000000002) σ)))))))))))))))) : CI 57 [.ref 0, .int a] σ K := by
  show PW none 57 0 [some (.ref 0), some (.int a)] [] σ _
  refine PW.runs hw_57 rfl 1 (q := (0, [some (.ref 0), some (.int a)], [], σ)) (q' := (1, [some (.ref 0), some (.int a)], [.int a], σ)) rfl ?_
  by_cases c0 : a = 0
  · replace h := (if_pos c0).mp h
    refine PW.tswK (k := 0) (t := 76) (ins_l hw_57 rfl) c0 (by decide) (by decide) rfl rfl ?_
    refine PW.runs hw_57 rfl 3 (q := (76, [some (.ref 0), some (.int a)], [], σ)) (q' := (83, [some (.ref 0), some (.int a)], [.int (σ 11 0)], σ)) rfl ?_
    exact PW.iret (ins_l hw_57 rfl) (Or.inl rfl) ⟨_, rfl, h⟩
  replace h := (if_neg c0).mp h
  by_cases c1 : a = 1
  · replace h := (if_pos c1).mp h
    refine PW.tswK (k := 1) (t := 84) (ins_l hw_57 rfl) c1 (by decide) (by decide) rfl rfl ?_
    refine PW.runs hw_57 rfl 3 (q := (84, [some (.ref 0), some (.int a)], [], σ)) (q' := (91, [some (.ref 0), some (.int a)], [.int (σ 11 1)], σ)) rfl ?_
    exact PW.iret (ins_l hw_57 rfl) (Or.inl rfl) ⟨_, rfl, h⟩
  replace h := (if_neg c1).mp h
  by_cases c2 : a = 2
  · replace h := (if_pos c2).mp h
    refine PW.tswK (k := 2) (t := 92) (ins_l hw_57 rfl) c2 (by decide) (by decide) rfl rfl ?_
    refine PW.runs hw_57 rfl 3 (q := (92, [some (.ref 0), some (.int a)], [], σ)) (q' := (99, [some (.ref 0), some (.int a)], [.int (σ 11 2)], σ)) rfl ?_
    exact PW.iret (ins_l hw_57 rfl) (Or.inl rfl) ⟨_, rfl, h⟩
  replace h := (if_neg c2).mp h
  by_cases c3 : a = 3
  · replace h := (if_pos c3).mp h
    refine PW.tswK (k := 3) (t := 100) (ins_l hw_57 rfl) c3 (by decide) (by decide) rfl rfl ?_
    refine PW.runs hw_57 rfl 3 (q := (100, [some (.ref 0), some (.int a)], [], σ)) (q' := (107, [some (.ref 0), some (.int a)], [.int (σ 11 3)], σ)) rfl ?_
    exact PW.iret (ins_l hw_57 rfl) (Or.inl rfl) ⟨_, rfl, h⟩
  replace h := (if_neg c3).mp h
  by_cases c4 : a = 4
  · replace h := (if_pos c4).mp h
    refine PW.tswK (k := 4) (t := 108) (ins_l hw_57 rfl) c4 (by decide) (by decide) rfl rfl ?_
    refine PW.runs hw_57 rfl 3 (q := (108, [some (.ref 0), some (.int a)], [], σ)) (q' := (115, [some (.ref 0), some (.int a)], [.int (σ 1 1)], σ)) rfl ?_
    exact PW.iret (ins_l hw_57 rfl) (Or.inl rfl) ⟨_, rfl, h⟩
  replace h := (if_neg c4).mp h
  by_cases c5 : a = 5
  · replace h := (if_pos c5).mp h
    refine PW.tswK (k := 5) (t := 116) (ins_l hw_57 rfl) c5 (by decide) (by decide) rfl rfl ?_
    refine PW.runs hw_57 rfl 3 (q := (116, [some (.ref 0), some (.int a)], [], σ)) (q' := (123, [some (.ref 0), some (.int a)], [.int (σ 19 1)], σ)) rfl ?_
    exact PW.iret (ins_l hw_57 rfl) (Or.inl rfl) ⟨_, rfl, h⟩
  replace h := (if_neg c5).mp h
  by_cases c6 : a = 6
  · replace h := (if_pos c6).mp h
    refine PW.tswK (k := 6) (t := 124) (ins_l hw_57 rfl) c6 (by decide) (by decide) rfl rfl ?_
    refine PW.runs hw_57 rfl 3 (q := (124, [some (.ref 0), some (.int a)], [], σ)) (q' := (131, [some (.ref 0), some (.int a)], [.int (σ 19 0)], σ)) rfl ?_
    exact PW.iret (ins_l hw_57 rfl) (Or.inl rfl) ⟨_, rfl, h⟩
  replace h := (if_neg c6).mp h
  by_cases c7 : a = 7
  · replace h := (if_pos c7).mp h
    refine PW.tswK (k := 7) (t := 132) (ins_l hw_57 rfl) c7 (by decide) (by decide) rfl rfl ?_
    refine PW.runs hw_57 rfl 3 (q := (132, [some (.ref 0), some (.int a)], [], σ)) (q' := (139, [some (.ref 0), some (.int a)], [.int (σ 19 2)], σ)) rfl ?_
    exact PW.iret (ins_l hw_57 rfl) (Or.inl rfl) ⟨_, rfl, h⟩
  replace h := (if_neg c7).mp h
  by_cases c8 : a = 8
  · replace h := (if_pos c8).mp h
    refine PW.tswK (k := 8) (t := 140) (ins_l hw_57 rfl) c8 (by decide) (by decide) rfl rfl ?_
    refine PW.runs hw_57 rfl 3 (q := (140, [some (.ref 0), some (.int a)], [], σ)) (q' := (147, [some (.ref 0), some (.int a)], [.int (σ 19 3)], σ)) rfl ?_
    exact PW.iret (ins_l hw_57 rfl) (Or.inl rfl) ⟨_, rfl, h⟩
  replace h := (if_neg c8).mp h
  by_cases c9 : a = 9
  · replace h := (if_pos c9).mp h
    refine PW.tswK (k := 9) (t := 148) (ins_l hw_57 rfl) c9 (by decide) (by decide) rfl rfl ?_
    refine PW.runs hw_57 rfl 5 (q := (148, [some (.ref 0), some (.int a)], [], σ)) (q' := (159, [some (.ref 0), some (.int a)], [.int (σ 19 0), .ref 27], σ)) rfl ?_
    refine PW.callV (b := 27) (vs := [.int (σ 19 0)]) (rest := []) (ins_l hw_57 rfl) rfl rfl rfl (Nat.le_of_ble_eq_true rfl) (Nat.le_of_ble_eq_true rfl) (PW.mono h ?_)
    rintro _ σ1 ⟨v1, rfl, h⟩
    show PW none 57 162 [some (.ref 0), some (.int a)] [.int v1] σ1 _
    exact PW.iret (ins_l hw_57 rfl) (Or.inl rfl) ⟨_, rfl, h⟩
  replace h := (if_neg c9).mp h
  by_cases c10 : a = 10
  · replace h := (if_pos c10).mp h
    refine PW.tswK (k := 10) (t := 163) (ins_l hw_57 rfl) c10 (by decide) (by decide) rfl rfl ?_
    refine PW.runs hw_57 rfl 1 (q := (163, [some (.ref 0), some (.int a)], [], σ)) (q' := (164, [some (.ref 0), some (.int a)], [.ref 0], σ)) rfl ?_
    refine PW.callV (b := 0) (vs := []) (rest := []) (ins_l hw_57 rfl) rfl rfl rfl (Nat.le_of_ble_eq_true rfl) (Nat.le_of_ble_eq_true rfl) (PW.mono h ?_)
    rintro _ σ2 ⟨v2, rfl, h⟩
    show PW none 57 167 [some (.ref 0), some (.int a)] [.int v2] σ2 _
    exact PW.iret (ins_l hw_57 rfl) (Or.inl rfl) ⟨_, rfl, h⟩
  replace h := (if_neg c10).mp h
  by_cases c11 : a = 11
  · replace h := (if_pos c11).mp h
    refine PW.tswK (k := 11) (t := 168) (ins_l hw_57 rfl) c11 (by decide) (by decide) rfl rfl ?_
    refine PW.runs hw_57 rfl 1 (q := (168, [some (.ref 0), some (.int a)], [], σ)) (q' := (169, [some (.ref 0), some (.int a)], [.ref 0], σ)) rfl ?_
    refine PW.callV (b := 0) (vs := []) (rest := []) (ins_l hw_57 rfl) rfl rfl rfl (Nat.le_of_ble_eq_true rfl) (Nat.le_of_ble_eq_true rfl) (PW.mono h ?_)
    rintro _ σ3 ⟨v3, rfl, h⟩
    show PW none 57 172 [some (.ref 0), some (.int a)] [.int v3] σ3 _
    exact PW.iret (ins_l hw_57 rfl) (Or.inl rfl) ⟨_, rfl, h⟩
  replace h := (if_neg c11).mp h
  by_cases c12 : a = 12
  · replace h := (if_pos c12).mp h
    refine PW.tswK (k := 12) (t := 173) (ins_l hw_57 rfl) c12 (by decide) (by decide) rfl rfl ?_
    refine PW.runs hw_57 rfl 3 (q := (173, [some (.ref 0), some (.int a)], [], σ)) (q' := (180, [some (.ref 0), some (.int a)], [.int (σ 29 0)], σ)) rfl ?_
    exact PW.iret (ins_l hw_57 rfl) (Or.inl rfl) ⟨_, rfl, h⟩
  replace h := (if_neg c12).mp h
  by_cases c13 : a = 13
  · replace h := (if_pos c13).mp h
    refine PW.tswK (k := 13) (t := 181) (ins_l hw_57 rfl) c13 (by decide) (by decide) rfl rfl ?_
    refine PW.runs hw_57 rfl 3 (q := (181, [some (.ref 0), some (.int a)], [], σ)) (q' := (188, [some (.ref 0), some (.int a)], [.int (σ 29 1)], σ)) rfl ?_
    exact PW.iret (ins_l hw_57 rfl) (Or.inl rfl) ⟨_, rfl, h⟩
  replace h := (if_neg c13).mp h
  by_cases c14 : a = 14
  · replace h := (if_pos c14).mp h
    refine PW.tswK (k := 14) (t := 189) (ins_l hw_57 rfl) c14 (by decide) (by decide) rfl rfl ?_
    refine PW.runs hw_57 rfl 3 (q := (189, [some (.ref 0), some (.int a)], [], σ)) (q' := (196, [some (.ref 0), some (.int a)], [.int (σ 24 2)], σ)) rfl ?_
    exact PW.iret (ins_l hw_57 rfl) (Or.inl rfl) ⟨_, rfl, h⟩
  replace h := (if_neg c14).mp h
  have hD : PI 57 197 [some (.ref 0), some (.int a)] [] σ K := by
    refine PW.runs hw_57 rfl 1 (q := (197, [some (.ref 0), some (.int a)], [], σ)) (q' := (199, [some (.ref 0), some (.int a)], [.int (-1000000002)], σ)) rfl ?_
    exact PW.iret (ins_l hw_57 rfl) (Or.inl rfl) ⟨_, rfl, h⟩
  refine PW.tswD (t := 197) (ins_l hw_57 rfl) ?_ rfl hD
  have zc0 := tne c0 (k := 0) rfl
  have zc1 := tne c1 (k := 1) rfl
  have zc2 := tne c2 (k := 2) rfl
  have zc3 := tne c3 (k := 3) rfl
  have zc4 := tne c4 (k := 4) rfl
  have zc5 := tne c5 (k := 5) rfl
  have zc6 := tne c6 (k := 6) rfl
  have zc7 := tne c7 (k := 7) rfl
  have zc8 := tne c8 (k := 8) rfl
  have zc9 := tne c9 (k := 9) rfl
  have zc10 := tne c10 (k := 10) rfl
  have zc11 := tne c11 (k := 11) rfl
  have zc12 := tne c12 (k := 12) rfl
  have zc13 := tne c13 (k := 13) rfl
  have zc14 := tne c14 (k := 14) rfl
  omega
theorem hw_59 : pins.getD 59 [] = pi_59 := rfl
/-! MapDuty.map.(II)I -/
set_option maxRecDepth 20000 in
theorem w_59 {a : Int32} {b : Int32} {σ : St} {K : Int32 → St → Prop} (h : CI 86 [.ref 0, .int a] σ (fun v1 σ1 => (if v1 = 0 then K (-1000000001) σ1 else (if b = 0 then ((0 ≤ a.toInt ∧ a.toInt < 5) ∧ K (σ1 16 (Int32.toNatClampNeg a)) σ1) else (if b = 1 then ((0 ≤ a.toInt ∧ a.toInt < 5) ∧ K (σ1 20 (Int32.toNatClampNeg a)) σ1) else (if b = 2 then CI 95 [.ref 0, .int a] σ1 (fun v2 σ2 => K v2 σ2) else (if b = 3 then ((0 ≤ a.toInt ∧ a.toInt < 5) ∧ K (σ1 21 (Int32.toNatClampNeg a)) σ1) else (if b = 4 then CI 96 [.ref 0, .int a] σ1 (fun v3 σ3 => K v3 σ3) else (if b = 5 then ((0 ≤ a.toInt ∧ a.toInt < 5) ∧ CI 45 [.ref 27, .int (σ1 19 0), .int (σ1 20 (Int32.toNatClampNeg a))] σ1 (fun v4 σ4 => K v4 σ4)) else (if b = 6 then ((0 ≤ a.toInt ∧ a.toInt < 5) ∧ CI 46 [.ref 27, .int (σ1 20 (Int32.toNatClampNeg a)), .int (σ1 19 0)] σ1 (fun v5 σ5 => K v5 σ5)) else K (-1000000002) σ1)))))))))) : CI 59 [.ref 0, .int a, .int b] σ K := by
  show PW none 59 0 [some (.ref 0), some (.int a), some (.int b)] [] σ _
  refine PW.runs hw_59 rfl 2 (q := (0, [some (.ref 0), some (.int a), some (.int b)], [], σ)) (q' := (2, [some (.ref 0), some (.int a), some (.int b)], [.int a, .ref 0], σ)) rfl ?_
  refine PW.callV (b := 0) (vs := [.int a]) (rest := []) (ins_l hw_59 rfl) rfl rfl rfl (Nat.le_of_ble_eq_true rfl) (Nat.le_of_ble_eq_true rfl) (PW.mono h ?_)
  rintro _ σ1 ⟨v1, rfl, h⟩
  show PW none 59 5 [some (.ref 0), some (.int a), some (.int b)] [.int v1] σ1 _
  refine PW.ifc (t := 11) (ins_l hw_59 rfl) rfl (fun hc1 => ?_) (fun hc1 => ?_)
  · replace h := (if_neg (c_neT hc1)).mp h
    refine PW.runs hw_59 rfl 1 (q := (11, [some (.ref 0), some (.int a), some (.int b)], [], σ1)) (q' := (12, [some (.ref 0), some (.int a), some (.int b)], [.int b], σ1)) rfl ?_
    by_cases c0 : b = 0
    · replace h := (if_pos c0).mp h
      refine PW.tswK (k := 0) (t := 56) (ins_l hw_59 rfl) c0 (by decide) (by decide) rfl rfl ?_
      refine PW.runs hw_59 rfl 4 (q := (56, [some (.ref 0), some (.int a), some (.int b)], [], σ1)) (q' := (64, [some (.ref 0), some (.int a), some (.int b)], [.int a, .ref 16], σ1)) rfl ?_
      obtain ⟨hb1, h⟩ := h
      refine PW.iald (n := 5) (ins_l hw_59 rfl) rfl (idx_in hb1.1 hb1.2).1 ?_
      exact PW.iret (ins_l hw_59 rfl) (Or.inl rfl) ⟨_, rfl, h⟩
    replace h := (if_neg c0).mp h
    by_cases c1 : b = 1
    · replace h := (if_pos c1).mp h
      refine PW.tswK (k := 1) (t := 66) (ins_l hw_59 rfl) c1 (by decide) (by decide) rfl rfl ?_
      refine PW.runs hw_59 rfl 4 (q := (66, [some (.ref 0), some (.int a), some (.int b)], [], σ1)) (q' := (74, [some (.ref 0), some (.int a), some (.int b)], [.int a, .ref 20], σ1)) rfl ?_
      obtain ⟨hb1, h⟩ := h
      refine PW.iald (n := 5) (ins_l hw_59 rfl) rfl (idx_in hb1.1 hb1.2).1 ?_
      exact PW.iret (ins_l hw_59 rfl) (Or.inl rfl) ⟨_, rfl, h⟩
    replace h := (if_neg c1).mp h
    by_cases c2 : b = 2
    · replace h := (if_pos c2).mp h
      refine PW.tswK (k := 2) (t := 76) (ins_l hw_59 rfl) c2 (by decide) (by decide) rfl rfl ?_
      refine PW.runs hw_59 rfl 2 (q := (76, [some (.ref 0), some (.int a), some (.int b)], [], σ1)) (q' := (78, [some (.ref 0), some (.int a), some (.int b)], [.int a, .ref 0], σ1)) rfl ?_
      refine PW.callV (b := 0) (vs := [.int a]) (rest := []) (ins_l hw_59 rfl) rfl rfl rfl (Nat.le_of_ble_eq_true rfl) (Nat.le_of_ble_eq_true rfl) (PW.mono h ?_)
      rintro _ σ2 ⟨v2, rfl, h⟩
      show PW none 59 81 [some (.ref 0), some (.int a), some (.int b)] [.int v2] σ2 _
      exact PW.iret (ins_l hw_59 rfl) (Or.inl rfl) ⟨_, rfl, h⟩
    replace h := (if_neg c2).mp h
    by_cases c3 : b = 3
    · replace h := (if_pos c3).mp h
      refine PW.tswK (k := 3) (t := 82) (ins_l hw_59 rfl) c3 (by decide) (by decide) rfl rfl ?_
      refine PW.runs hw_59 rfl 4 (q := (82, [some (.ref 0), some (.int a), some (.int b)], [], σ1)) (q' := (90, [some (.ref 0), some (.int a), some (.int b)], [.int a, .ref 21], σ1)) rfl ?_
      obtain ⟨hb1, h⟩ := h
      refine PW.iald (n := 5) (ins_l hw_59 rfl) rfl (idx_in hb1.1 hb1.2).1 ?_
      exact PW.iret (ins_l hw_59 rfl) (Or.inl rfl) ⟨_, rfl, h⟩
    replace h := (if_neg c3).mp h
    by_cases c4 : b = 4
    · replace h := (if_pos c4).mp h
      refine PW.tswK (k := 4) (t := 92) (ins_l hw_59 rfl) c4 (by decide) (by decide) rfl rfl ?_
      refine PW.runs hw_59 rfl 2 (q := (92, [some (.ref 0), some (.int a), some (.int b)], [], σ1)) (q' := (94, [some (.ref 0), some (.int a), some (.int b)], [.int a, .ref 0], σ1)) rfl ?_
      refine PW.callV (b := 0) (vs := [.int a]) (rest := []) (ins_l hw_59 rfl) rfl rfl rfl (Nat.le_of_ble_eq_true rfl) (Nat.le_of_ble_eq_true rfl) (PW.mono h ?_)
      rintro _ σ3 ⟨v3, rfl, h⟩
      show PW none 59 97 [some (.ref 0), some (.int a), some (.int b)] [.int v3] σ3 _
      exact PW.iret (ins_l hw_59 rfl) (Or.inl rfl) ⟨_, rfl, h⟩
    replace h := (if_neg c4).mp h
    by_cases c5 : b = 5
    · replace h := (if_pos c5).mp h
      refine PW.tswK (k := 5) (t := 98) (ins_l hw_59 rfl) c5 (by decide) (by decide) rfl rfl ?_
      refine PW.runs hw_59 rfl 9 (q := (98, [some (.ref 0), some (.int a), some (.int b)], [], σ1)) (q' := (117, [some (.ref 0), some (.int a), some (.int b)], [.int a, .ref 20, .int (σ1 19 0), .ref 27], σ1)) rfl ?_
      obtain ⟨hb1, h⟩ := h
      refine PW.iald (n := 5) (ins_l hw_59 rfl) rfl (idx_in hb1.1 hb1.2).1 ?_
      refine PW.callV (b := 27) (vs := [.int (σ1 19 0), .int (σ1 20 (Int32.toNatClampNeg a))]) (rest := []) (ins_l hw_59 rfl) rfl rfl rfl (Nat.le_of_ble_eq_true rfl) (Nat.le_of_ble_eq_true rfl) (PW.mono h ?_)
      rintro _ σ4 ⟨v4, rfl, h⟩
      show PW none 59 121 [some (.ref 0), some (.int a), some (.int b)] [.int v4] σ4 _
      exact PW.iret (ins_l hw_59 rfl) (Or.inl rfl) ⟨_, rfl, h⟩
    replace h := (if_neg c5).mp h
    by_cases c6 : b = 6
    · replace h := (if_pos c6).mp h
      refine PW.tswK (k := 6) (t := 122) (ins_l hw_59 rfl) c6 (by decide) (by decide) rfl rfl ?_
      refine PW.runs hw_59 rfl 6 (q := (122, [some (.ref 0), some (.int a), some (.int b)], [], σ1)) (q' := (134, [some (.ref 0), some (.int a), some (.int b)], [.int a, .ref 20, .ref 27], σ1)) rfl ?_
      obtain ⟨hb1, h⟩ := h
      refine PW.iald (n := 5) (ins_l hw_59 rfl) rfl (idx_in hb1.1 hb1.2).1 ?_
      refine PW.runs hw_59 rfl 3 (q := (135, [some (.ref 0), some (.int a), some (.int b)], [.int (σ1 20 (Int32.toNatClampNeg a)), .ref 27], σ1)) (q' := (142, [some (.ref 0), some (.int a), some (.int b)], [.int (σ1 19 0), .int (σ1 20 (Int32.toNatClampNeg a)), .ref 27], σ1)) rfl ?_
      refine PW.callV (b := 27) (vs := [.int (σ1 20 (Int32.toNatClampNeg a)), .int (σ1 19 0)]) (rest := []) (ins_l hw_59 rfl) rfl rfl rfl (Nat.le_of_ble_eq_true rfl) (Nat.le_of_ble_eq_true rfl) (PW.mono h ?_)
      rintro _ σ5 ⟨v5, rfl, h⟩
      show PW none 59 145 [some (.ref 0), some (.int a), some (.int b)] [.int v5] σ5 _
      exact PW.iret (ins_l hw_59 rfl) (Or.inl rfl) ⟨_, rfl, h⟩
    replace h := (if_neg c6).mp h
    have hD : PI 59 146 [some (.ref 0), some (.int a), some (.int b)] [] σ1 K := by
      refine PW.runs hw_59 rfl 1 (q := (146, [some (.ref 0), some (.int a), some (.int b)], [], σ1)) (q' := (148, [some (.ref 0), some (.int a), some (.int b)], [.int (-1000000002)], σ1)) rfl ?_
      exact PW.iret (ins_l hw_59 rfl) (Or.inl rfl) ⟨_, rfl, h⟩
    refine PW.tswD (t := 146) (ins_l hw_59 rfl) ?_ rfl hD
    have zc0 := tne c0 (k := 0) rfl
    have zc1 := tne c1 (k := 1) rfl
    have zc2 := tne c2 (k := 2) rfl
    have zc3 := tne c3 (k := 3) rfl
    have zc4 := tne c4 (k := 4) rfl
    have zc5 := tne c5 (k := 5) rfl
    have zc6 := tne c6 (k := 6) rfl
    omega
  · replace h := (if_pos (c_neF hc1)).mp h
    refine PW.runs hw_59 rfl 1 (q := (8, [some (.ref 0), some (.int a), some (.int b)], [], σ1)) (q' := (10, [some (.ref 0), some (.int a), some (.int b)], [.int (-1000000001)], σ1)) rfl ?_
    exact PW.iret (ins_l hw_59 rfl) (Or.inl rfl) ⟨_, rfl, h⟩
theorem hw_96 : pins.getD 96 [] = pi_96 := rfl
/-! MapDuty.rightLines.(I)I -/
set_option maxRecDepth 20000 in
theorem w_96 {a : Int32} {σ : St} {K : Int32 → St → Prop} (h : CI 86 [.ref 0, .int a] σ (fun v1 σ1 => (if v1 = 0 then K 0 σ1 else CI 94 [.int (σ1 11 1)] σ1 (fun v2 σ2 => ((0 ≤ a.toInt ∧ a.toInt < 5) ∧ K (v2 &&& (((σ2 20 (Int32.toNatClampNeg a)) ^^^ (σ2 19 0)) ^^^ (-1))) σ2))))) : CI 96 [.ref 0, .int a] σ K := by
  show PW none 96 0 [some (.ref 0), some (.int a)] [] σ _
  refine PW.runs hw_96 rfl 2 (q := (0, [some (.ref 0), some (.int a)], [], σ)) (q' := (2, [some (.ref 0), some (.int a)], [.int a, .ref 0], σ)) rfl ?_
  refine PW.callV (b := 0) (vs := [.int a]) (rest := []) (ins_l hw_96 rfl) rfl rfl rfl (Nat.le_of_ble_eq_true rfl) (Nat.le_of_ble_eq_true rfl) (PW.mono h ?_)
  rintro _ σ1 ⟨v1, rfl, h⟩
  show PW none 96 5 [some (.ref 0), some (.int a)] [.int v1] σ1 _
  refine PW.ifc (t := 41) (ins_l hw_96 rfl) rfl (fun hc1 => ?_) (fun hc1 => ?_)
  · replace h := (if_pos (c_eqT hc1)).mp h
    refine PW.runs hw_96 rfl 1 (q := (41, [some (.ref 0), some (.int a)], [], σ1)) (q' := (42, [some (.ref 0), some (.int a)], [.int 0], σ1)) rfl ?_
    exact PW.iret (ins_l hw_96 rfl) (Or.inl rfl) ⟨_, rfl, h⟩
  · replace h := (if_neg (c_eqF hc1)).mp h
    refine PW.runs hw_96 rfl 3 (q := (8, [some (.ref 0), some (.int a)], [], σ1)) (q' := (15, [some (.ref 0), some (.int a)], [.int (σ1 11 1)], σ1)) rfl ?_
    refine PW.callS (vs := [.int (σ1 11 1)]) (rest := []) (ins_l hw_96 rfl) rfl (Or.inl rfl) rfl (Nat.le_of_ble_eq_true rfl) (Nat.le_of_ble_eq_true rfl) (PW.mono h ?_)
    rintro _ σ2 ⟨v2, rfl, h⟩
    show PW none 96 18 [some (.ref 0), some (.int a)] [.int v2] σ2 _
    refine PW.runs hw_96 rfl 4 (q := (18, [some (.ref 0), some (.int a)], [.int v2], σ2)) (q' := (26, [some (.ref 0), some (.int a)], [.int a, .ref 20, .int v2], σ2)) rfl ?_
    obtain ⟨hb1, h⟩ := h
    refine PW.iald (n := 5) (ins_l hw_96 rfl) rfl (idx_in hb1.1 hb1.2).1 ?_
    refine PW.runs hw_96 rfl 8 (q := (27, [some (.ref 0), some (.int a)], [.int (σ2 20 (Int32.toNatClampNeg a)), .int v2], σ2)) (q' := (42, [some (.ref 0), some (.int a)], [.int (v2 &&& (((σ2 20 (Int32.toNatClampNeg a)) ^^^ (σ2 19 0)) ^^^ (-1)))], σ2)) rfl ?_
    exact PW.iret (ins_l hw_96 rfl) (Or.inl rfl) ⟨_, rfl, h⟩
theorem hw_98 : pins.getD 98 [] = pi_98 := rfl
/-! MapDuty.poorest.()I -/
set_option maxRecDepth 20000 in
theorem w_98  {σ : St} {K : Int32 → St → Prop} (h : PI 98 6 [some (.ref 0), some (.int (-1)), some (.int 0), some (.int 0), none] [] σ K) : CI 98 [.ref 0] σ K := by
  show PW none 98 0 [some (.ref 0), none, none, none, none] [] σ _
  refine PW.runs hw_98 rfl 6 (q := (0, [some (.ref 0), none, none, none, none], [], σ)) (q' := (6, [some (.ref 0), some (.int (-1)), some (.int 0), some (.int 0), none], [], σ)) rfl ?_
  exact h
set_option maxRecDepth 20000 in
theorem w_98_6 {x1 : Int32} {x2 : Int32} {x3 : Int32} {o4 : Option Value} {σ : St} {K : Int32 → St → Prop} (h : (if (σ 11 2) ≤ x3 then K x1 σ else CI 95 [.ref 0, .int x3] σ (fun v1 σ1 => (if x1 = (-1) then PI 98 6 [some (.ref 0), some (.int x3), some (.int v1), some (.int (x3 + 1)), some (.int v1)] [] σ1 K else (if x2 ≤ v1 then PI 98 6 [some (.ref 0), some (.int x1), some (.int x2), some (.int (x3 + 1)), some (.int v1)] [] σ1 K else PI 98 6 [some (.ref 0), some (.int x3), some (.int v1), some (.int (x3 + 1)), some (.int v1)] [] σ1 K))))) : PI 98 6 [some (.ref 0), some (.int x1), some (.int x2), some (.int x3), o4] [] σ K := by
  show PW none 98 6 [some (.ref 0), some (.int x1), some (.int x2), some (.int x3), o4] [] σ _
  refine PW.runs hw_98 rfl 4 (q := (6, [some (.ref 0), some (.int x1), some (.int x2), some (.int x3), o4], [], σ)) (q' := (14, [some (.ref 0), some (.int x1), some (.int x2), some (.int x3), o4], [.int (σ 11 2), .int x3], σ)) rfl ?_
  refine PW.icm (t := 46) (ins_l hw_98 rfl) rfl (fun hc1 => ?_) (fun hc1 => ?_)
  · replace h := (if_pos (c_geT hc1)).mp h
    refine PW.runs hw_98 rfl 1 (q := (46, [some (.ref 0), some (.int x1), some (.int x2), some (.int x3), o4], [], σ)) (q' := (47, [some (.ref 0), some (.int x1), some (.int x2), some (.int x3), o4], [.int x1], σ)) rfl ?_
    exact PW.iret (ins_l hw_98 rfl) (Or.inl rfl) ⟨_, rfl, h⟩
  · replace h := (if_neg (c_geF hc1)).mp h
    refine PW.runs hw_98 rfl 2 (q := (17, [some (.ref 0), some (.int x1), some (.int x2), some (.int x3), o4], [], σ)) (q' := (19, [some (.ref 0), some (.int x1), some (.int x2), some (.int x3), o4], [.int x3, .ref 0], σ)) rfl ?_
    refine PW.callV (b := 0) (vs := [.int x3]) (rest := []) (ins_l hw_98 rfl) rfl rfl rfl (Nat.le_of_ble_eq_true rfl) (Nat.le_of_ble_eq_true rfl) (PW.mono h ?_)
    rintro _ σ1 ⟨v1, rfl, h⟩
    show PW none 98 22 [some (.ref 0), some (.int x1), some (.int x2), some (.int x3), o4] [.int v1] σ1 _
    refine PW.runs hw_98 rfl 3 (q := (22, [some (.ref 0), some (.int x1), some (.int x2), some (.int x3), o4], [.int v1], σ1)) (q' := (26, [some (.ref 0), some (.int x1), some (.int x2), some (.int x3), some (.int v1)], [.int (-1), .int x1], σ1)) rfl ?_
    refine PW.icm (t := 35) (ins_l hw_98 rfl) rfl (fun hc2 => ?_) (fun hc2 => ?_)
    · replace h := (if_pos (c_eqT hc2)).mp h
      refine PW.runs hw_98 rfl 6 (q := (35, [some (.ref 0), some (.int x1), some (.int x2), some (.int x3), some (.int v1)], [], σ1)) (q' := (6, [some (.ref 0), some (.int x3), some (.int v1), some (.int (x3 + 1)), some (.int v1)], [], σ1)) rfl ?_
      exact h
    · replace h := (if_neg (c_eqF hc2)).mp h
      refine PW.runs hw_98 rfl 2 (q := (29, [some (.ref 0), some (.int x1), some (.int x2), some (.int x3), some (.int v1)], [], σ1)) (q' := (32, [some (.ref 0), some (.int x1), some (.int x2), some (.int x3), some (.int v1)], [.int x2, .int v1], σ1)) rfl ?_
      refine PW.icm (t := 40) (ins_l hw_98 rfl) rfl (fun hc3 => ?_) (fun hc3 => ?_)
      · replace h := (if_pos (c_geT hc3)).mp h
        refine PW.runs hw_98 rfl 2 (q := (40, [some (.ref 0), some (.int x1), some (.int x2), some (.int x3), some (.int v1)], [], σ1)) (q' := (6, [some (.ref 0), some (.int x1), some (.int x2), some (.int (x3 + 1)), some (.int v1)], [], σ1)) rfl ?_
        exact h
      · replace h := (if_neg (c_geF hc3)).mp h
        refine PW.runs hw_98 rfl 6 (q := (35, [some (.ref 0), some (.int x1), some (.int x2), some (.int x3), some (.int v1)], [], σ1)) (q' := (6, [some (.ref 0), some (.int x3), some (.int v1), some (.int (x3 + 1)), some (.int v1)], [], σ1)) rfl ?_
        exact h
theorem hw_99 : pins.getD 99 [] = pi_99 := rfl
/-! MapDuty.rightest.()I -/
set_option maxRecDepth 20000 in
theorem w_99  {σ : St} {K : Int32 → St → Prop} (h : PI 99 6 [some (.ref 0), some (.int (-1)), some (.int 0), some (.int 0), none] [] σ K) : CI 99 [.ref 0] σ K := by
  show PW none 99 0 [some (.ref 0), none, none, none, none] [] σ _
  refine PW.runs hw_99 rfl 6 (q := (0, [some (.ref 0), none, none, none, none], [], σ)) (q' := (6, [some (.ref 0), some (.int (-1)), some (.int 0), some (.int 0), none], [], σ)) rfl ?_
  exact h
set_option maxRecDepth 20000 in
theorem w_99_6 {x1 : Int32} {x2 : Int32} {x3 : Int32} {o4 : Option Value} {σ : St} {K : Int32 → St → Prop} (h : (if (σ 11 2) ≤ x3 then K x1 σ else CI 96 [.ref 0, .int x3] σ (fun v1 σ1 => CI 192 [.int v1] σ1 (fun v2 σ2 => (if x1 = (-1) then PI 99 6 [some (.ref 0), some (.int x3), some (.int v2), some (.int (x3 + 1)), some (.int v2)] [] σ2 K else (if v2 ≤ x2 then PI 99 6 [some (.ref 0), some (.int x1), some (.int x2), some (.int (x3 + 1)), some (.int v2)] [] σ2 K else PI 99 6 [some (.ref 0), some (.int x3), some (.int v2), some (.int (x3 + 1)), some (.int v2)] [] σ2 K)))))) : PI 99 6 [some (.ref 0), some (.int x1), some (.int x2), some (.int x3), o4] [] σ K := by
  show PW none 99 6 [some (.ref 0), some (.int x1), some (.int x2), some (.int x3), o4] [] σ _
  refine PW.runs hw_99 rfl 4 (q := (6, [some (.ref 0), some (.int x1), some (.int x2), some (.int x3), o4], [], σ)) (q' := (14, [some (.ref 0), some (.int x1), some (.int x2), some (.int x3), o4], [.int (σ 11 2), .int x3], σ)) rfl ?_
  refine PW.icm (t := 49) (ins_l hw_99 rfl) rfl (fun hc1 => ?_) (fun hc1 => ?_)
  · replace h := (if_pos (c_geT hc1)).mp h
    refine PW.runs hw_99 rfl 1 (q := (49, [some (.ref 0), some (.int x1), some (.int x2), some (.int x3), o4], [], σ)) (q' := (50, [some (.ref 0), some (.int x1), some (.int x2), some (.int x3), o4], [.int x1], σ)) rfl ?_
    exact PW.iret (ins_l hw_99 rfl) (Or.inl rfl) ⟨_, rfl, h⟩
  · replace h := (if_neg (c_geF hc1)).mp h
    refine PW.runs hw_99 rfl 2 (q := (17, [some (.ref 0), some (.int x1), some (.int x2), some (.int x3), o4], [], σ)) (q' := (19, [some (.ref 0), some (.int x1), some (.int x2), some (.int x3), o4], [.int x3, .ref 0], σ)) rfl ?_
    refine PW.callV (b := 0) (vs := [.int x3]) (rest := []) (ins_l hw_99 rfl) rfl rfl rfl (Nat.le_of_ble_eq_true rfl) (Nat.le_of_ble_eq_true rfl) (PW.mono h ?_)
    rintro _ σ1 ⟨v1, rfl, h⟩
    show PW none 99 22 [some (.ref 0), some (.int x1), some (.int x2), some (.int x3), o4] [.int v1] σ1 _
    refine PW.callS (vs := [.int v1]) (rest := []) (ins_l hw_99 rfl) rfl (Or.inl rfl) rfl (Nat.le_of_ble_eq_true rfl) (Nat.le_of_ble_eq_true rfl) (PW.mono h ?_)
    rintro _ σ2 ⟨v2, rfl, h⟩
    show PW none 99 25 [some (.ref 0), some (.int x1), some (.int x2), some (.int x3), o4] [.int v2] σ2 _
    refine PW.runs hw_99 rfl 3 (q := (25, [some (.ref 0), some (.int x1), some (.int x2), some (.int x3), o4], [.int v2], σ2)) (q' := (29, [some (.ref 0), some (.int x1), some (.int x2), some (.int x3), some (.int v2)], [.int (-1), .int x1], σ2)) rfl ?_
    refine PW.icm (t := 38) (ins_l hw_99 rfl) rfl (fun hc2 => ?_) (fun hc2 => ?_)
    · replace h := (if_pos (c_eqT hc2)).mp h
      refine PW.runs hw_99 rfl 6 (q := (38, [some (.ref 0), some (.int x1), some (.int x2), some (.int x3), some (.int v2)], [], σ2)) (q' := (6, [some (.ref 0), some (.int x3), some (.int v2), some (.int (x3 + 1)), some (.int v2)], [], σ2)) rfl ?_
      exact h
    · replace h := (if_neg (c_eqF hc2)).mp h
      refine PW.runs hw_99 rfl 2 (q := (32, [some (.ref 0), some (.int x1), some (.int x2), some (.int x3), some (.int v2)], [], σ2)) (q' := (35, [some (.ref 0), some (.int x1), some (.int x2), some (.int x3), some (.int v2)], [.int x2, .int v2], σ2)) rfl ?_
      refine PW.icm (t := 43) (ins_l hw_99 rfl) rfl (fun hc3 => ?_) (fun hc3 => ?_)
      · replace h := (if_pos (c_leT hc3)).mp h
        refine PW.runs hw_99 rfl 2 (q := (43, [some (.ref 0), some (.int x1), some (.int x2), some (.int x3), some (.int v2)], [], σ2)) (q' := (6, [some (.ref 0), some (.int x1), some (.int x2), some (.int (x3 + 1)), some (.int v2)], [], σ2)) rfl ?_
        exact h
      · replace h := (if_neg (c_leF hc3)).mp h
        refine PW.runs hw_99 rfl 6 (q := (38, [some (.ref 0), some (.int x1), some (.int x2), some (.int x3), some (.int v2)], [], σ2)) (q' := (6, [some (.ref 0), some (.int x3), some (.int v2), some (.int (x3 + 1)), some (.int v2)], [], σ2)) rfl ?_
        exact h
theorem hw_192 : pins.getD 192 [] = pi_192 := rfl
/-! java/lang/Integer.bitCount.(I)I -/
set_option maxRecDepth 20000 in
theorem w_192 {a : Int32} {σ : St} {K : Int32 → St → Prop} (h : K ((((((((a - ((ush a 1) &&& 1431655765)) &&& 858993459) + ((ush (a - ((ush a 1) &&& 1431655765)) 2) &&& 858993459)) + (ush (((a - ((ush a 1) &&& 1431655765)) &&& 858993459) + ((ush (a - ((ush a 1) &&& 1431655765)) 2) &&& 858993459)) 4)) &&& 252645135) + (ush (((((a - ((ush a 1) &&& 1431655765)) &&& 858993459) + ((ush (a - ((ush a 1) &&& 1431655765)) 2) &&& 858993459)) + (ush (((a - ((ush a 1) &&& 1431655765)) &&& 858993459) + ((ush (a - ((ush a 1) &&& 1431655765)) 2) &&& 858993459)) 4)) &&& 252645135) 8)) + (ush ((((((a - ((ush a 1) &&& 1431655765)) &&& 858993459) + ((ush (a - ((ush a 1) &&& 1431655765)) 2) &&& 858993459)) + (ush (((a - ((ush a 1) &&& 1431655765)) &&& 858993459) + ((ush (a - ((ush a 1) &&& 1431655765)) 2) &&& 858993459)) 4)) &&& 252645135) + (ush (((((a - ((ush a 1) &&& 1431655765)) &&& 858993459) + ((ush (a - ((ush a 1) &&& 1431655765)) 2) &&& 858993459)) + (ush (((a - ((ush a 1) &&& 1431655765)) &&& 858993459) + ((ush (a - ((ush a 1) &&& 1431655765)) 2) &&& 858993459)) 4)) &&& 252645135) 8)) 16)) &&& 63) σ) : CI 192 [.int a] σ K := by
  show PW none 192 0 [some (.int a)] [] σ _
  refine PW.runs hw_192 rfl 41 (q := (0, [some (.int a)], [], σ)) (q' := (52, [some (.int (((((((a - ((ush a 1) &&& 1431655765)) &&& 858993459) + ((ush (a - ((ush a 1) &&& 1431655765)) 2) &&& 858993459)) + (ush (((a - ((ush a 1) &&& 1431655765)) &&& 858993459) + ((ush (a - ((ush a 1) &&& 1431655765)) 2) &&& 858993459)) 4)) &&& 252645135) + (ush (((((a - ((ush a 1) &&& 1431655765)) &&& 858993459) + ((ush (a - ((ush a 1) &&& 1431655765)) 2) &&& 858993459)) + (ush (((a - ((ush a 1) &&& 1431655765)) &&& 858993459) + ((ush (a - ((ush a 1) &&& 1431655765)) 2) &&& 858993459)) 4)) &&& 252645135) 8)) + (ush ((((((a - ((ush a 1) &&& 1431655765)) &&& 858993459) + ((ush (a - ((ush a 1) &&& 1431655765)) 2) &&& 858993459)) + (ush (((a - ((ush a 1) &&& 1431655765)) &&& 858993459) + ((ush (a - ((ush a 1) &&& 1431655765)) 2) &&& 858993459)) 4)) &&& 252645135) + (ush (((((a - ((ush a 1) &&& 1431655765)) &&& 858993459) + ((ush (a - ((ush a 1) &&& 1431655765)) 2) &&& 858993459)) + (ush (((a - ((ush a 1) &&& 1431655765)) &&& 858993459) + ((ush (a - ((ush a 1) &&& 1431655765)) 2) &&& 858993459)) 4)) &&& 252645135) 8)) 16)))], [.int ((((((((a - ((ush a 1) &&& 1431655765)) &&& 858993459) + ((ush (a - ((ush a 1) &&& 1431655765)) 2) &&& 858993459)) + (ush (((a - ((ush a 1) &&& 1431655765)) &&& 858993459) + ((ush (a - ((ush a 1) &&& 1431655765)) 2) &&& 858993459)) 4)) &&& 252645135) + (ush (((((a - ((ush a 1) &&& 1431655765)) &&& 858993459) + ((ush (a - ((ush a 1) &&& 1431655765)) 2) &&& 858993459)) + (ush (((a - ((ush a 1) &&& 1431655765)) &&& 858993459) + ((ush (a - ((ush a 1) &&& 1431655765)) 2) &&& 858993459)) 4)) &&& 252645135) 8)) + (ush ((((((a - ((ush a 1) &&& 1431655765)) &&& 858993459) + ((ush (a - ((ush a 1) &&& 1431655765)) 2) &&& 858993459)) + (ush (((a - ((ush a 1) &&& 1431655765)) &&& 858993459) + ((ush (a - ((ush a 1) &&& 1431655765)) 2) &&& 858993459)) 4)) &&& 252645135) + (ush (((((a - ((ush a 1) &&& 1431655765)) &&& 858993459) + ((ush (a - ((ush a 1) &&& 1431655765)) 2) &&& 858993459)) + (ush (((a - ((ush a 1) &&& 1431655765)) &&& 858993459) + ((ush (a - ((ush a 1) &&& 1431655765)) 2) &&& 858993459)) 4)) &&& 252645135) 8)) 16)) &&& 63)], σ)) rfl ?_
  exact PW.iret (ins_l hw_192 rfl) (Or.inl rfl) ⟨_, rfl, h⟩
theorem hw_111 : pins.getD 111 [] = pi_111 := rfl
/-! MapDutyModel.bits.(I)I -/
set_option maxRecDepth 20000 in
theorem w_111 {a : Int32} {σ : St} {K : Int32 → St → Prop} (h : PI 111 4 [some (.int a), some (.int 0), some (.int 0)] [] σ K) : CI 111 [.int a] σ K := by
  show PW none 111 0 [some (.int a), none, none] [] σ _
  refine PW.runs hw_111 rfl 4 (q := (0, [some (.int a), none, none], [], σ)) (q' := (4, [some (.int a), some (.int 0), some (.int 0)], [], σ)) rfl ?_
  exact h
set_option maxRecDepth 20000 in
theorem w_111_4 {a : Int32} {x1 : Int32} {x2 : Int32} {σ : St} {K : Int32 → St → Prop} (h : (if 12 ≤ x2 then K x1 σ else PI 111 4 [some (.int a), some (.int (x1 + ((a >>> (x2 &&& 31)) &&& 1))), some (.int (x2 + 1))] [] σ K)) : PI 111 4 [some (.int a), some (.int x1), some (.int x2)] [] σ K := by
  show PW none 111 4 [some (.int a), some (.int x1), some (.int x2)] [] σ _
  refine PW.runs hw_111 rfl 2 (q := (4, [some (.int a), some (.int x1), some (.int x2)], [], σ)) (q' := (7, [some (.int a), some (.int x1), some (.int x2)], [.int 12, .int x2], σ)) rfl ?_
  refine PW.icm (t := 24) (ins_l hw_111 rfl) rfl (fun hc1 => ?_) (fun hc1 => ?_)
  · replace h := (if_pos (c_geT hc1)).mp h
    refine PW.runs hw_111 rfl 1 (q := (24, [some (.int a), some (.int x1), some (.int x2)], [], σ)) (q' := (25, [some (.int a), some (.int x1), some (.int x2)], [.int x1], σ)) rfl ?_
    exact PW.iret (ins_l hw_111 rfl) (Or.inl rfl) ⟨_, rfl, h⟩
  · replace h := (if_neg (c_geF hc1)).mp h
    refine PW.runs hw_111 rfl 10 (q := (10, [some (.int a), some (.int x1), some (.int x2)], [], σ)) (q' := (4, [some (.int a), some (.int (x1 + ((a >>> (x2 &&& 31)) &&& 1))), some (.int (x2 + 1))], [], σ)) rfl ?_
    exact h
theorem hw_137 : pins.getD 137 [] = pi_137 := rfl
/-! MapDutyModel.rightIn.(I)I -/
set_option maxRecDepth 20000 in
theorem w_137 {a : Int32} {σ : St} {K : Int32 → St → Prop} (h : ((0 ≤ a.toInt ∧ a.toInt < 14) ∧ K (((1 <<< ((σ 39 1) &&& 31)) - 1) &&& (((σ 46 (Int32.toNatClampNeg a)) ^^^ (σ 46 10)) ^^^ (-1))) σ)) : CI 137 [.ref 39, .int a] σ K := by
  show PW none 137 0 [some (.ref 39), some (.int a)] [] σ _
  refine PW.runs hw_137 rfl 9 (q := (0, [some (.ref 39), some (.int a)], [], σ)) (q' := (13, [some (.ref 39), some (.int a)], [.int a, .ref 46, .int ((1 <<< ((σ 39 1) &&& 31)) - 1)], σ)) rfl ?_
  obtain ⟨hb1, h⟩ := h
  refine PW.iald (n := 14) (ins_l hw_137 rfl) rfl (idx_in hb1.1 hb1.2).1 ?_
  refine PW.runs hw_137 rfl 3 (q := (14, [some (.ref 39), some (.int a)], [.int (σ 46 (Int32.toNatClampNeg a)), .int ((1 <<< ((σ 39 1) &&& 31)) - 1)], σ)) (q' := (20, [some (.ref 39), some (.int a)], [.int 10, .ref 46, .int (σ 46 (Int32.toNatClampNeg a)), .int ((1 <<< ((σ 39 1) &&& 31)) - 1)], σ)) rfl ?_
  refine PW.iald (n := 14) (ins_l hw_137 rfl) rfl (by decide) ?_
  refine PW.runs hw_137 rfl 4 (q := (21, [some (.ref 39), some (.int a)], [.int (σ 46 10), .int (σ 46 (Int32.toNatClampNeg a)), .int ((1 <<< ((σ 39 1) &&& 31)) - 1)], σ)) (q' := (25, [some (.ref 39), some (.int a)], [.int (((1 <<< ((σ 39 1) &&& 31)) - 1) &&& (((σ 46 (Int32.toNatClampNeg a)) ^^^ (σ 46 10)) ^^^ (-1)))], σ)) rfl ?_
  exact PW.iret (ins_l hw_137 rfl) (Or.inl rfl) ⟨_, rfl, h⟩
theorem hw_144 : pins.getD 144 [] = pi_144 := rfl
/-! MapDutyModel.bridges.()I -/
set_option maxRecDepth 20000 in
theorem w_144  {σ : St} {K : Int32 → St → Prop} (h : PI 144 4 [some (.ref 39), some (.int 0), some (.int 0), none] [] σ K) : CI 144 [.ref 39] σ K := by
  show PW none 144 0 [some (.ref 39), none, none, none] [] σ _
  refine PW.runs hw_144 rfl 4 (q := (0, [some (.ref 39), none, none, none], [], σ)) (q' := (4, [some (.ref 39), some (.int 0), some (.int 0), none], [], σ)) rfl ?_
  exact h
set_option maxRecDepth 20000 in
theorem w_144_4 {x1 : Int32} {x2 : Int32} {o3 : Option Value} {σ : St} {K : Int32 → St → Prop} (h : (if (σ 39 1) ≤ x2 then K x1 σ else CI 110 [.int (σ 46 10), .int x2] σ (fun v1 σ1 => (if v1 = 0 then PI 144 4 [some (.ref 39), some (.int (x1 ||| 0)), some (.int (x2 + 1)), some (.int 0)] [] σ1 K else ((0 ≤ x2.toInt ∧ x2.toInt < 12) ∧ CI 140 [.ref 39, .int (σ1 40 (Int32.toNatClampNeg x2)), .int (σ1 41 (Int32.toNatClampNeg x2)), .int ((σ1 46 10) &&& ((1 <<< (x2 &&& 31)) ^^^ (-1)))] σ1 (fun v2 σ2 => (if v2 = 0 then PI 144 4 [some (.ref 39), some (.int (x1 ||| (1 <<< (x2 &&& 31)))), some (.int (x2 + 1)), some (.int 1)] [] σ2 K else PI 144 4 [some (.ref 39), some (.int (x1 ||| 0)), some (.int (x2 + 1)), some (.int 0)] [] σ2 K))))))) : PI 144 4 [some (.ref 39), some (.int x1), some (.int x2), o3] [] σ K := by
  show PW none 144 4 [some (.ref 39), some (.int x1), some (.int x2), o3] [] σ _
  refine PW.runs hw_144 rfl 3 (q := (4, [some (.ref 39), some (.int x1), some (.int x2), o3], [], σ)) (q' := (9, [some (.ref 39), some (.int x1), some (.int x2), o3], [.int (σ 39 1), .int x2], σ)) rfl ?_
  refine PW.icm (t := 84) (ins_l hw_144 rfl) rfl (fun hc1 => ?_) (fun hc1 => ?_)
  · replace h := (if_pos (c_geT hc1)).mp h
    refine PW.runs hw_144 rfl 1 (q := (84, [some (.ref 39), some (.int x1), some (.int x2), o3], [], σ)) (q' := (85, [some (.ref 39), some (.int x1), some (.int x2), o3], [.int x1], σ)) rfl ?_
    exact PW.iret (ins_l hw_144 rfl) (Or.inl rfl) ⟨_, rfl, h⟩
  · replace h := (if_neg (c_geF hc1)).mp h
    refine PW.runs hw_144 rfl 3 (q := (12, [some (.ref 39), some (.int x1), some (.int x2), o3], [], σ)) (q' := (18, [some (.ref 39), some (.int x1), some (.int x2), o3], [.int 10, .ref 46], σ)) rfl ?_
    refine PW.iald (n := 14) (ins_l hw_144 rfl) rfl (by decide) ?_
    refine PW.runs hw_144 rfl 1 (q := (19, [some (.ref 39), some (.int x1), some (.int x2), o3], [.int (σ 46 10)], σ)) (q' := (20, [some (.ref 39), some (.int x1), some (.int x2), o3], [.int x2, .int (σ 46 10)], σ)) rfl ?_
    refine PW.callS (vs := [.int (σ 46 10), .int x2]) (rest := []) (ins_l hw_144 rfl) rfl (Or.inl rfl) rfl (Nat.le_of_ble_eq_true rfl) (Nat.le_of_ble_eq_true rfl) (PW.mono h ?_)
    rintro _ σ1 ⟨v1, rfl, h⟩
    show PW none 144 23 [some (.ref 39), some (.int x1), some (.int x2), o3] [.int v1] σ1 _
    refine PW.ifc (t := 62) (ins_l hw_144 rfl) rfl (fun hc2 => ?_) (fun hc2 => ?_)
    · replace h := (if_pos (c_eqT hc2)).mp h
      refine PW.runs hw_144 rfl 4 (q := (62, [some (.ref 39), some (.int x1), some (.int x2), o3], [], σ1)) (q' := (66, [some (.ref 39), some (.int x1), some (.int x2), some (.int 0)], [.int 0, .int x1], σ1)) rfl ?_
      refine PW.ifcT (t := 75) (ins_l hw_144 rfl) rfl (by decide) ?_
      refine PW.runs hw_144 rfl 5 (q := (75, [some (.ref 39), some (.int x1), some (.int x2), some (.int 0)], [.int x1], σ1)) (q' := (4, [some (.ref 39), some (.int (x1 ||| 0)), some (.int (x2 + 1)), some (.int 0)], [], σ1)) rfl ?_
      exact h
    · replace h := (if_neg (c_eqF hc2)).mp h
      refine PW.runs hw_144 rfl 4 (q := (26, [some (.ref 39), some (.int x1), some (.int x2), o3], [], σ1)) (q' := (32, [some (.ref 39), some (.int x1), some (.int x2), o3], [.int x2, .ref 40, .ref 39], σ1)) rfl ?_
      obtain ⟨hb1, h⟩ := h
      refine PW.iald (n := 12) (ins_l hw_144 rfl) rfl (idx_in hb1.1 hb1.2).1 ?_
      refine PW.runs hw_144 rfl 3 (q := (33, [some (.ref 39), some (.int x1), some (.int x2), o3], [.int (σ1 40 (Int32.toNatClampNeg x2)), .ref 39], σ1)) (q' := (38, [some (.ref 39), some (.int x1), some (.int x2), o3], [.int x2, .ref 41, .int (σ1 40 (Int32.toNatClampNeg x2)), .ref 39], σ1)) rfl ?_
      refine PW.iald (n := 12) (ins_l hw_144 rfl) rfl (idx_in hb1.1 hb1.2).1 ?_
      refine PW.runs hw_144 rfl 3 (q := (39, [some (.ref 39), some (.int x1), some (.int x2), o3], [.int (σ1 41 (Int32.toNatClampNeg x2)), .int (σ1 40 (Int32.toNatClampNeg x2)), .ref 39], σ1)) (q' := (45, [some (.ref 39), some (.int x1), some (.int x2), o3], [.int 10, .ref 46, .int (σ1 41 (Int32.toNatClampNeg x2)), .int (σ1 40 (Int32.toNatClampNeg x2)), .ref 39], σ1)) rfl ?_
      refine PW.iald (n := 14) (ins_l hw_144 rfl) rfl (by decide) ?_
      refine PW.runs hw_144 rfl 6 (q := (46, [some (.ref 39), some (.int x1), some (.int x2), o3], [.int (σ1 46 10), .int (σ1 41 (Int32.toNatClampNeg x2)), .int (σ1 40 (Int32.toNatClampNeg x2)), .ref 39], σ1)) (q' := (52, [some (.ref 39), some (.int x1), some (.int x2), o3], [.int ((σ1 46 10) &&& ((1 <<< (x2 &&& 31)) ^^^ (-1))), .int (σ1 41 (Int32.toNatClampNeg x2)), .int (σ1 40 (Int32.toNatClampNeg x2)), .ref 39], σ1)) rfl ?_
      refine PW.callV (b := 39) (vs := [.int (σ1 40 (Int32.toNatClampNeg x2)), .int (σ1 41 (Int32.toNatClampNeg x2)), .int ((σ1 46 10) &&& ((1 <<< (x2 &&& 31)) ^^^ (-1)))]) (rest := []) (ins_l hw_144 rfl) rfl rfl rfl (Nat.le_of_ble_eq_true rfl) (Nat.le_of_ble_eq_true rfl) (PW.mono h ?_)
      rintro _ σ2 ⟨v2, rfl, h⟩
      show PW none 144 55 [some (.ref 39), some (.int x1), some (.int x2), o3] [.int v2] σ2 _
      refine PW.ifc (t := 62) (ins_l hw_144 rfl) rfl (fun hc3 => ?_) (fun hc3 => ?_)
      · replace h := (if_neg (c_neT hc3)).mp h
        refine PW.runs hw_144 rfl 4 (q := (62, [some (.ref 39), some (.int x1), some (.int x2), o3], [], σ2)) (q' := (66, [some (.ref 39), some (.int x1), some (.int x2), some (.int 0)], [.int 0, .int x1], σ2)) rfl ?_
        refine PW.ifcT (t := 75) (ins_l hw_144 rfl) rfl (by decide) ?_
        refine PW.runs hw_144 rfl 5 (q := (75, [some (.ref 39), some (.int x1), some (.int x2), some (.int 0)], [.int x1], σ2)) (q' := (4, [some (.ref 39), some (.int (x1 ||| 0)), some (.int (x2 + 1)), some (.int 0)], [], σ2)) rfl ?_
        exact h
      · replace h := (if_pos (c_neF hc3)).mp h
        refine PW.runs hw_144 rfl 5 (q := (58, [some (.ref 39), some (.int x1), some (.int x2), o3], [], σ2)) (q' := (66, [some (.ref 39), some (.int x1), some (.int x2), some (.int 1)], [.int 1, .int x1], σ2)) rfl ?_
        refine PW.ifcF (t := 75) (ins_l hw_144 rfl) rfl (by decide) ?_
        refine PW.runs hw_144 rfl 8 (q := (69, [some (.ref 39), some (.int x1), some (.int x2), some (.int 1)], [.int x1], σ2)) (q' := (4, [some (.ref 39), some (.int (x1 ||| (1 <<< (x2 &&& 31)))), some (.int (x2 + 1)), some (.int 1)], [], σ2)) rfl ?_
        exact h
theorem hw_145 : pins.getD 145 [] = pi_145 := rfl
/-! MapDutyModel.poorest.()I -/
set_option maxRecDepth 20000 in
theorem w_145  {σ : St} {K : Int32 → St → Prop} (h : PI 145 7 [some (.ref 39), some (.int (-1)), some (.int 1000000), some (.int 0), none] [] σ K) : CI 145 [.ref 39] σ K := by
  show PW none 145 0 [some (.ref 39), none, none, none, none] [] σ _
  refine PW.runs hw_145 rfl 6 (q := (0, [some (.ref 39), none, none, none, none], [], σ)) (q' := (7, [some (.ref 39), some (.int (-1)), some (.int 1000000), some (.int 0), none], [], σ)) rfl ?_
  exact h
set_option maxRecDepth 20000 in
theorem w_145_7 {x1 : Int32} {x2 : Int32} {x3 : Int32} {o4 : Option Value} {σ : St} {K : Int32 → St → Prop} (h : (if (σ 39 6) ≤ x3 then K x1 σ else CI 136 [.ref 39, .int x3] σ (fun v1 σ1 => (if x2 ≤ v1 then PI 145 7 [some (.ref 39), some (.int x1), some (.int x2), some (.int (x3 + 1)), some (.int v1)] [] σ1 K else PI 145 7 [some (.ref 39), some (.int x3), some (.int v1), some (.int (x3 + 1)), some (.int v1)] [] σ1 K)))) : PI 145 7 [some (.ref 39), some (.int x1), some (.int x2), some (.int x3), o4] [] σ K := by
  show PW none 145 7 [some (.ref 39), some (.int x1), some (.int x2), some (.int x3), o4] [] σ _
  refine PW.runs hw_145 rfl 3 (q := (7, [some (.ref 39), some (.int x1), some (.int x2), some (.int x3), o4], [], σ)) (q' := (12, [some (.ref 39), some (.int x1), some (.int x2), some (.int x3), o4], [.int (σ 39 6), .int x3], σ)) rfl ?_
  refine PW.icm (t := 53) (ins_l hw_145 rfl) rfl (fun hc1 => ?_) (fun hc1 => ?_)
  · replace h := (if_pos (c_geT hc1)).mp h
    refine PW.runs hw_145 rfl 1 (q := (53, [some (.ref 39), some (.int x1), some (.int x2), some (.int x3), o4], [], σ)) (q' := (54, [some (.ref 39), some (.int x1), some (.int x2), some (.int x3), o4], [.int x1], σ)) rfl ?_
    exact PW.iret (ins_l hw_145 rfl) (Or.inl rfl) ⟨_, rfl, h⟩
  · replace h := (if_neg (c_geF hc1)).mp h
    refine PW.runs hw_145 rfl 2 (q := (15, [some (.ref 39), some (.int x1), some (.int x2), some (.int x3), o4], [], σ)) (q' := (17, [some (.ref 39), some (.int x1), some (.int x2), some (.int x3), o4], [.int x3, .ref 39], σ)) rfl ?_
    refine PW.callV (b := 39) (vs := [.int x3]) (rest := []) (ins_l hw_145 rfl) rfl rfl rfl (Nat.le_of_ble_eq_true rfl) (Nat.le_of_ble_eq_true rfl) (PW.mono h ?_)
    rintro _ σ1 ⟨v1, rfl, h⟩
    show PW none 145 20 [some (.ref 39), some (.int x1), some (.int x2), some (.int x3), o4] [.int v1] σ1 _
    refine PW.runs hw_145 rfl 3 (q := (20, [some (.ref 39), some (.int x1), some (.int x2), some (.int x3), o4], [.int v1], σ1)) (q' := (25, [some (.ref 39), some (.int x1), some (.int x2), some (.int x3), some (.int v1)], [.int x2, .int v1], σ1)) rfl ?_
    refine PW.icm (t := 32) (ins_l hw_145 rfl) rfl (fun hc2 => ?_) (fun hc2 => ?_)
    · replace h := (if_pos (c_geT hc2)).mp h
      refine PW.runs hw_145 rfl 4 (q := (32, [some (.ref 39), some (.int x1), some (.int x2), some (.int x3), some (.int v1)], [], σ1)) (q' := (37, [some (.ref 39), some (.int x1), some (.int x2), some (.int x3), some (.int v1)], [.int x2, .int v1], σ1)) rfl ?_
      refine PW.icmT (t := 45) (ins_l hw_145 rfl) rfl hc2 ?_
      refine PW.runs hw_145 rfl 4 (q := (45, [some (.ref 39), some (.int x1), some (.int x2), some (.int x3), some (.int v1)], [], σ1)) (q' := (7, [some (.ref 39), some (.int x1), some (.int x2), some (.int (x3 + 1)), some (.int v1)], [], σ1)) rfl ?_
      exact h
    · replace h := (if_neg (c_geF hc2)).mp h
      refine PW.runs hw_145 rfl 5 (q := (28, [some (.ref 39), some (.int x1), some (.int x2), some (.int x3), some (.int v1)], [], σ1)) (q' := (37, [some (.ref 39), some (.int x3), some (.int x2), some (.int x3), some (.int v1)], [.int x2, .int v1], σ1)) rfl ?_
      refine PW.icmF (t := 45) (ins_l hw_145 rfl) rfl hc2 ?_
      refine PW.runs hw_145 rfl 5 (q := (40, [some (.ref 39), some (.int x3), some (.int x2), some (.int x3), some (.int v1)], [], σ1)) (q' := (7, [some (.ref 39), some (.int x3), some (.int v1), some (.int (x3 + 1)), some (.int v1)], [], σ1)) rfl ?_
      exact h
theorem hw_146 : pins.getD 146 [] = pi_146 := rfl
/-! MapDutyModel.rightest.()I -/
set_option maxRecDepth 20000 in
theorem w_146  {σ : St} {K : Int32 → St → Prop} (h : PI 146 6 [some (.ref 39), some (.int (-1)), some (.int (-1)), some (.int 0), none] [] σ K) : CI 146 [.ref 39] σ K := by
  show PW none 146 0 [some (.ref 39), none, none, none, none] [] σ _
  refine PW.runs hw_146 rfl 6 (q := (0, [some (.ref 39), none, none, none, none], [], σ)) (q' := (6, [some (.ref 39), some (.int (-1)), some (.int (-1)), some (.int 0), none], [], σ)) rfl ?_
  exact h
set_option maxRecDepth 20000 in
theorem w_146_6 {x1 : Int32} {x2 : Int32} {x3 : Int32} {o4 : Option Value} {σ : St} {K : Int32 → St → Prop} (h : (if (σ 39 6) ≤ x3 then K x1 σ else CI 137 [.ref 39, .int x3] σ (fun v1 σ1 => CI 111 [.int v1] σ1 (fun v2 σ2 => (if v2 ≤ x2 then PI 146 6 [some (.ref 39), some (.int x1), some (.int x2), some (.int (x3 + 1)), some (.int v2)] [] σ2 K else PI 146 6 [some (.ref 39), some (.int x3), some (.int v2), some (.int (x3 + 1)), some (.int v2)] [] σ2 K))))) : PI 146 6 [some (.ref 39), some (.int x1), some (.int x2), some (.int x3), o4] [] σ K := by
  show PW none 146 6 [some (.ref 39), some (.int x1), some (.int x2), some (.int x3), o4] [] σ _
  refine PW.runs hw_146 rfl 3 (q := (6, [some (.ref 39), some (.int x1), some (.int x2), some (.int x3), o4], [], σ)) (q' := (11, [some (.ref 39), some (.int x1), some (.int x2), some (.int x3), o4], [.int (σ 39 6), .int x3], σ)) rfl ?_
  refine PW.icm (t := 55) (ins_l hw_146 rfl) rfl (fun hc1 => ?_) (fun hc1 => ?_)
  · replace h := (if_pos (c_geT hc1)).mp h
    refine PW.runs hw_146 rfl 1 (q := (55, [some (.ref 39), some (.int x1), some (.int x2), some (.int x3), o4], [], σ)) (q' := (56, [some (.ref 39), some (.int x1), some (.int x2), some (.int x3), o4], [.int x1], σ)) rfl ?_
    exact PW.iret (ins_l hw_146 rfl) (Or.inl rfl) ⟨_, rfl, h⟩
  · replace h := (if_neg (c_geF hc1)).mp h
    refine PW.runs hw_146 rfl 2 (q := (14, [some (.ref 39), some (.int x1), some (.int x2), some (.int x3), o4], [], σ)) (q' := (16, [some (.ref 39), some (.int x1), some (.int x2), some (.int x3), o4], [.int x3, .ref 39], σ)) rfl ?_
    refine PW.callV (b := 39) (vs := [.int x3]) (rest := []) (ins_l hw_146 rfl) rfl rfl rfl (Nat.le_of_ble_eq_true rfl) (Nat.le_of_ble_eq_true rfl) (PW.mono h ?_)
    rintro _ σ1 ⟨v1, rfl, h⟩
    show PW none 146 19 [some (.ref 39), some (.int x1), some (.int x2), some (.int x3), o4] [.int v1] σ1 _
    refine PW.callS (vs := [.int v1]) (rest := []) (ins_l hw_146 rfl) rfl (Or.inl rfl) rfl (Nat.le_of_ble_eq_true rfl) (Nat.le_of_ble_eq_true rfl) (PW.mono h ?_)
    rintro _ σ2 ⟨v2, rfl, h⟩
    show PW none 146 22 [some (.ref 39), some (.int x1), some (.int x2), some (.int x3), o4] [.int v2] σ2 _
    refine PW.runs hw_146 rfl 3 (q := (22, [some (.ref 39), some (.int x1), some (.int x2), some (.int x3), o4], [.int v2], σ2)) (q' := (27, [some (.ref 39), some (.int x1), some (.int x2), some (.int x3), some (.int v2)], [.int x2, .int v2], σ2)) rfl ?_
    refine PW.icm (t := 34) (ins_l hw_146 rfl) rfl (fun hc2 => ?_) (fun hc2 => ?_)
    · replace h := (if_pos (c_leT hc2)).mp h
      refine PW.runs hw_146 rfl 4 (q := (34, [some (.ref 39), some (.int x1), some (.int x2), some (.int x3), some (.int v2)], [], σ2)) (q' := (39, [some (.ref 39), some (.int x1), some (.int x2), some (.int x3), some (.int v2)], [.int x2, .int v2], σ2)) rfl ?_
      refine PW.icmT (t := 47) (ins_l hw_146 rfl) rfl hc2 ?_
      refine PW.runs hw_146 rfl 4 (q := (47, [some (.ref 39), some (.int x1), some (.int x2), some (.int x3), some (.int v2)], [], σ2)) (q' := (6, [some (.ref 39), some (.int x1), some (.int x2), some (.int (x3 + 1)), some (.int v2)], [], σ2)) rfl ?_
      exact h
    · replace h := (if_neg (c_leF hc2)).mp h
      refine PW.runs hw_146 rfl 5 (q := (30, [some (.ref 39), some (.int x1), some (.int x2), some (.int x3), some (.int v2)], [], σ2)) (q' := (39, [some (.ref 39), some (.int x3), some (.int x2), some (.int x3), some (.int v2)], [.int x2, .int v2], σ2)) rfl ?_
      refine PW.icmF (t := 47) (ins_l hw_146 rfl) rfl hc2 ?_
      refine PW.runs hw_146 rfl 5 (q := (42, [some (.ref 39), some (.int x3), some (.int x2), some (.int x3), some (.int v2)], [], σ2)) (q' := (6, [some (.ref 39), some (.int x3), some (.int v2), some (.int (x3 + 1)), some (.int v2)], [], σ2)) rfl ?_
      exact h
theorem hw_147 : pins.getD 147 [] = pi_147 := rfl
/-! MapDutyModel.lost.(I)I -/
set_option maxRecDepth 20000 in
theorem w_147 {a : Int32} {σ : St} {K : Int32 → St → Prop} (h : PI 147 4 [some (.ref 39), some (.int a), some (.int 0), some (.int 0), none] [] σ K) : CI 147 [.ref 39, .int a] σ K := by
  show PW none 147 0 [some (.ref 39), some (.int a), none, none, none] [] σ _
  refine PW.runs hw_147 rfl 4 (q := (0, [some (.ref 39), some (.int a), none, none, none], [], σ)) (q' := (4, [some (.ref 39), some (.int a), some (.int 0), some (.int 0), none], [], σ)) rfl ?_
  exact h
set_option maxRecDepth 20000 in
theorem w_147_4 {a : Int32} {x2 : Int32} {x3 : Int32} {o4 : Option Value} {σ : St} {K : Int32 → St → Prop} (h : (if (σ 39 0) ≤ x3 then K x2 σ else PI 147 17 [some (.ref 39), some (.int a), some (.int x2), some (.int x3), some (.int (x3 + 1))] [] σ K)) : PI 147 4 [some (.ref 39), some (.int a), some (.int x2), some (.int x3), o4] [] σ K := by
  show PW none 147 4 [some (.ref 39), some (.int a), some (.int x2), some (.int x3), o4] [] σ _
  refine PW.runs hw_147 rfl 3 (q := (4, [some (.ref 39), some (.int a), some (.int x2), some (.int x3), o4], [], σ)) (q' := (9, [some (.ref 39), some (.int a), some (.int x2), some (.int x3), o4], [.int (σ 39 0), .int x3], σ)) rfl ?_
  refine PW.icm (t := 79) (ins_l hw_147 rfl) rfl (fun hc1 => ?_) (fun hc1 => ?_)
  · replace h := (if_pos (c_geT hc1)).mp h
    refine PW.runs hw_147 rfl 1 (q := (79, [some (.ref 39), some (.int a), some (.int x2), some (.int x3), o4], [], σ)) (q' := (80, [some (.ref 39), some (.int a), some (.int x2), some (.int x3), o4], [.int x2], σ)) rfl ?_
    exact PW.iret (ins_l hw_147 rfl) (Or.inl rfl) ⟨_, rfl, h⟩
  · replace h := (if_neg (c_geF hc1)).mp h
    refine PW.runs hw_147 rfl 4 (q := (12, [some (.ref 39), some (.int a), some (.int x2), some (.int x3), o4], [], σ)) (q' := (17, [some (.ref 39), some (.int a), some (.int x2), some (.int x3), some (.int (x3 + 1))], [], σ)) rfl ?_
    exact h
set_option maxRecDepth 20000 in
theorem w_147_17 {a : Int32} {x2 : Int32} {x3 : Int32} {x4 : Int32} {σ : St} {K : Int32 → St → Prop} (h : (if (σ 39 0) ≤ x4 then PI 147 4 [some (.ref 39), some (.int a), some (.int x2), some (.int (x3 + 1)), some (.int x4)] [] σ K else CI 140 [.ref 39, .int x3, .int x4, .int (σ 46 10)] σ (fun v1 σ1 => (if v1 = 0 then PI 147 17 [some (.ref 39), some (.int a), some (.int (x2 + 0)), some (.int x3), some (.int (x4 + 1))] [] σ1 K else ((0 ≤ a.toInt ∧ a.toInt < 14) ∧ CI 140 [.ref 39, .int x3, .int x4, .int (σ1 46 (Int32.toNatClampNeg a))] σ1 (fun v2 σ2 => (if v2 = 0 then PI 147 17 [some (.ref 39), some (.int a), some (.int (x2 + 1)), some (.int x3), some (.int (x4 + 1))] [] σ2 K else PI 147 17 [some (.ref 39), some (.int a), some (.int (x2 + 0)), some (.int x3), some (.int (x4 + 1))] [] σ2 K))))))) : PI 147 17 [some (.ref 39), some (.int a), some (.int x2), some (.int x3), some (.int x4)] [] σ K := by
  show PW none 147 17 [some (.ref 39), some (.int a), some (.int x2), some (.int x3), some (.int x4)] [] σ _
  refine PW.runs hw_147 rfl 3 (q := (17, [some (.ref 39), some (.int a), some (.int x2), some (.int x3), some (.int x4)], [], σ)) (q' := (23, [some (.ref 39), some (.int a), some (.int x2), some (.int x3), some (.int x4)], [.int (σ 39 0), .int x4], σ)) rfl ?_
  refine PW.icm (t := 73) (ins_l hw_147 rfl) rfl (fun hc1 => ?_) (fun hc1 => ?_)
  · replace h := (if_pos (c_geT hc1)).mp h
    refine PW.runs hw_147 rfl 2 (q := (73, [some (.ref 39), some (.int a), some (.int x2), some (.int x3), some (.int x4)], [], σ)) (q' := (4, [some (.ref 39), some (.int a), some (.int x2), some (.int (x3 + 1)), some (.int x4)], [], σ)) rfl ?_
    exact h
  · replace h := (if_neg (c_geF hc1)).mp h
    refine PW.runs hw_147 rfl 7 (q := (26, [some (.ref 39), some (.int a), some (.int x2), some (.int x3), some (.int x4)], [], σ)) (q' := (37, [some (.ref 39), some (.int a), some (.int x2), some (.int x3), some (.int x4)], [.int 10, .ref 46, .int x4, .int x3, .ref 39, .int x2], σ)) rfl ?_
    refine PW.iald (n := 14) (ins_l hw_147 rfl) rfl (by decide) ?_
    refine PW.callV (b := 39) (vs := [.int x3, .int x4, .int (σ 46 10)]) (rest := [.int x2]) (ins_l hw_147 rfl) rfl rfl rfl (Nat.le_of_ble_eq_true rfl) (Nat.le_of_ble_eq_true rfl) (PW.mono h ?_)
    rintro _ σ1 ⟨v1, rfl, h⟩
    show PW none 147 41 [some (.ref 39), some (.int a), some (.int x2), some (.int x3), some (.int x4)] [.int v1, .int x2] σ1 _
    refine PW.ifc (t := 64) (ins_l hw_147 rfl) rfl (fun hc2 => ?_) (fun hc2 => ?_)
    · replace h := (if_pos (c_eqT hc2)).mp h
      refine PW.runs hw_147 rfl 5 (q := (64, [some (.ref 39), some (.int a), some (.int x2), some (.int x3), some (.int x4)], [.int x2], σ1)) (q' := (17, [some (.ref 39), some (.int a), some (.int (x2 + 0)), some (.int x3), some (.int (x4 + 1))], [], σ1)) rfl ?_
      exact h
    · replace h := (if_neg (c_eqF hc2)).mp h
      refine PW.runs hw_147 rfl 6 (q := (44, [some (.ref 39), some (.int a), some (.int x2), some (.int x3), some (.int x4)], [.int x2], σ1)) (q' := (53, [some (.ref 39), some (.int a), some (.int x2), some (.int x3), some (.int x4)], [.int a, .ref 46, .int x4, .int x3, .ref 39, .int x2], σ1)) rfl ?_
      obtain ⟨hb1, h⟩ := h
      refine PW.iald (n := 14) (ins_l hw_147 rfl) rfl (idx_in hb1.1 hb1.2).1 ?_
      refine PW.callV (b := 39) (vs := [.int x3, .int x4, .int (σ1 46 (Int32.toNatClampNeg a))]) (rest := [.int x2]) (ins_l hw_147 rfl) rfl rfl rfl (Nat.le_of_ble_eq_true rfl) (Nat.le_of_ble_eq_true rfl) (PW.mono h ?_)
      rintro _ σ2 ⟨v2, rfl, h⟩
      show PW none 147 57 [some (.ref 39), some (.int a), some (.int x2), some (.int x3), some (.int x4)] [.int v2, .int x2] σ2 _
      refine PW.ifc (t := 64) (ins_l hw_147 rfl) rfl (fun hc3 => ?_) (fun hc3 => ?_)
      · replace h := (if_neg (c_neT hc3)).mp h
        refine PW.runs hw_147 rfl 5 (q := (64, [some (.ref 39), some (.int a), some (.int x2), some (.int x3), some (.int x4)], [.int x2], σ2)) (q' := (17, [some (.ref 39), some (.int a), some (.int (x2 + 0)), some (.int x3), some (.int (x4 + 1))], [], σ2)) rfl ?_
        exact h
      · replace h := (if_pos (c_neF hc3)).mp h
        refine PW.runs hw_147 rfl 6 (q := (60, [some (.ref 39), some (.int a), some (.int x2), some (.int x3), some (.int x4)], [.int x2], σ2)) (q' := (17, [some (.ref 39), some (.int a), some (.int (x2 + 1)), some (.int x3), some (.int (x4 + 1))], [], σ2)) rfl ?_
        exact h
theorem hw_148 : pins.getD 148 [] = pi_148 := rfl
/-! MapDutyModel.price.(I)I -/
set_option maxRecDepth 20000 in
theorem w_148 {a : Int32} {σ : St} {K : Int32 → St → Prop} (h : PI 148 4 [some (.ref 39), some (.int a), some (.int 0), some (.int 0), none, none] [] σ K) : CI 148 [.ref 39, .int a] σ K := by
  show PW none 148 0 [some (.ref 39), some (.int a), none, none, none, none] [] σ _
  refine PW.runs hw_148 rfl 4 (q := (0, [some (.ref 39), some (.int a), none, none, none, none], [], σ)) (q' := (4, [some (.ref 39), some (.int a), some (.int 0), some (.int 0), none, none], [], σ)) rfl ?_
  exact h
set_option maxRecDepth 20000 in
theorem w_148_4 {a : Int32} {x2 : Int32} {x3 : Int32} {o4 : Option Value} {o5 : Option Value} {σ : St} {K : Int32 → St → Prop} (h : (if (σ 39 0) ≤ x3 then (if x2 ≤ 0 then K 0 σ else K x2 σ) else PI 148 17 [some (.ref 39), some (.int a), some (.int x2), some (.int x3), some (.int (x3 + 1)), o5] [] σ K)) : PI 148 4 [some (.ref 39), some (.int a), some (.int x2), some (.int x3), o4, o5] [] σ K := by
  show PW none 148 4 [some (.ref 39), some (.int a), some (.int x2), some (.int x3), o4, o5] [] σ _
  refine PW.runs hw_148 rfl 3 (q := (4, [some (.ref 39), some (.int a), some (.int x2), some (.int x3), o4, o5], [], σ)) (q' := (9, [some (.ref 39), some (.int a), some (.int x2), some (.int x3), o4, o5], [.int (σ 39 0), .int x3], σ)) rfl ?_
  refine PW.icm (t := 79) (ins_l hw_148 rfl) rfl (fun hc1 => ?_) (fun hc1 => ?_)
  · replace h := (if_pos (c_geT hc1)).mp h
    refine PW.runs hw_148 rfl 1 (q := (79, [some (.ref 39), some (.int a), some (.int x2), some (.int x3), o4, o5], [], σ)) (q' := (80, [some (.ref 39), some (.int a), some (.int x2), some (.int x3), o4, o5], [.int x2], σ)) rfl ?_
    refine PW.ifc (t := 87) (ins_l hw_148 rfl) rfl (fun hc2 => ?_) (fun hc2 => ?_)
    · replace h := (if_pos (c_leT hc2)).mp h
      refine PW.runs hw_148 rfl 1 (q := (87, [some (.ref 39), some (.int a), some (.int x2), some (.int x3), o4, o5], [], σ)) (q' := (88, [some (.ref 39), some (.int a), some (.int x2), some (.int x3), o4, o5], [.int 0], σ)) rfl ?_
      exact PW.iret (ins_l hw_148 rfl) (Or.inl rfl) ⟨_, rfl, h⟩
    · replace h := (if_neg (c_leF hc2)).mp h
      refine PW.runs hw_148 rfl 2 (q := (83, [some (.ref 39), some (.int a), some (.int x2), some (.int x3), o4, o5], [], σ)) (q' := (88, [some (.ref 39), some (.int a), some (.int x2), some (.int x3), o4, o5], [.int x2], σ)) rfl ?_
      exact PW.iret (ins_l hw_148 rfl) (Or.inl rfl) ⟨_, rfl, h⟩
  · replace h := (if_neg (c_geF hc1)).mp h
    refine PW.runs hw_148 rfl 4 (q := (12, [some (.ref 39), some (.int a), some (.int x2), some (.int x3), o4, o5], [], σ)) (q' := (17, [some (.ref 39), some (.int a), some (.int x2), some (.int x3), some (.int (x3 + 1)), o5], [], σ)) rfl ?_
    exact h
set_option maxRecDepth 20000 in
theorem w_148_17 {a : Int32} {x2 : Int32} {x3 : Int32} {x4 : Int32} {o5 : Option Value} {σ : St} {K : Int32 → St → Prop} (h : (if (σ 39 0) ≤ x4 then PI 148 4 [some (.ref 39), some (.int a), some (.int x2), some (.int (x3 + 1)), some (.int x4), o5] [] σ K else ((0 ≤ a.toInt ∧ a.toInt < 14) ∧ CI 142 [.ref 39, .int x3, .int x4, .int (σ 46 (Int32.toNatClampNeg a))] σ (fun v1 σ1 => (if 0 ≤ v1 then CI 143 [.ref 39, .int v1] σ1 (fun v2 σ2 => (if 0 ≤ v2 then PI 148 17 [some (.ref 39), some (.int a), some (.int (x2 + (-1))), some (.int x3), some (.int (x4 + 1)), some (.int v1)] [] σ2 K else PI 148 17 [some (.ref 39), some (.int a), some (.int (x2 + 3)), some (.int x3), some (.int (x4 + 1)), some (.int v1)] [] σ2 K)) else PI 148 17 [some (.ref 39), some (.int a), some (.int (x2 + 0)), some (.int x3), some (.int (x4 + 1)), some (.int v1)] [] σ1 K))))) : PI 148 17 [some (.ref 39), some (.int a), some (.int x2), some (.int x3), some (.int x4), o5] [] σ K := by
  show PW none 148 17 [some (.ref 39), some (.int a), some (.int x2), some (.int x3), some (.int x4), o5] [] σ _
  refine PW.runs hw_148 rfl 3 (q := (17, [some (.ref 39), some (.int a), some (.int x2), some (.int x3), some (.int x4), o5], [], σ)) (q' := (23, [some (.ref 39), some (.int a), some (.int x2), some (.int x3), some (.int x4), o5], [.int (σ 39 0), .int x4], σ)) rfl ?_
  refine PW.icm (t := 73) (ins_l hw_148 rfl) rfl (fun hc1 => ?_) (fun hc1 => ?_)
  · replace h := (if_pos (c_geT hc1)).mp h
    refine PW.runs hw_148 rfl 2 (q := (73, [some (.ref 39), some (.int a), some (.int x2), some (.int x3), some (.int x4), o5], [], σ)) (q' := (4, [some (.ref 39), some (.int a), some (.int x2), some (.int (x3 + 1)), some (.int x4), o5], [], σ)) rfl ?_
    exact h
  · replace h := (if_neg (c_geF hc1)).mp h
    refine PW.runs hw_148 rfl 6 (q := (26, [some (.ref 39), some (.int a), some (.int x2), some (.int x3), some (.int x4), o5], [], σ)) (q' := (35, [some (.ref 39), some (.int a), some (.int x2), some (.int x3), some (.int x4), o5], [.int a, .ref 46, .int x4, .int x3, .ref 39], σ)) rfl ?_
    obtain ⟨hb1, h⟩ := h
    refine PW.iald (n := 14) (ins_l hw_148 rfl) rfl (idx_in hb1.1 hb1.2).1 ?_
    refine PW.callV (b := 39) (vs := [.int x3, .int x4, .int (σ 46 (Int32.toNatClampNeg a))]) (rest := []) (ins_l hw_148 rfl) rfl rfl rfl (Nat.le_of_ble_eq_true rfl) (Nat.le_of_ble_eq_true rfl) (PW.mono h ?_)
    rintro _ σ1 ⟨v1, rfl, h⟩
    show PW none 148 39 [some (.ref 39), some (.int a), some (.int x2), some (.int x3), some (.int x4), o5] [.int v1] σ1 _
    refine PW.runs hw_148 rfl 3 (q := (39, [some (.ref 39), some (.int a), some (.int x2), some (.int x3), some (.int x4), o5], [.int v1], σ1)) (q' := (44, [some (.ref 39), some (.int a), some (.int x2), some (.int x3), some (.int x4), some (.int v1)], [.int v1, .int x2], σ1)) rfl ?_
    refine PW.ifc (t := 51) (ins_l hw_148 rfl) rfl (fun hc2 => ?_) (fun hc2 => ?_)
    · replace h := (if_pos (c_geT hc2)).mp h
      refine PW.runs hw_148 rfl 2 (q := (51, [some (.ref 39), some (.int a), some (.int x2), some (.int x3), some (.int x4), some (.int v1)], [.int x2], σ1)) (q' := (54, [some (.ref 39), some (.int a), some (.int x2), some (.int x3), some (.int x4), some (.int v1)], [.int v1, .ref 39, .int x2], σ1)) rfl ?_
      refine PW.callV (b := 39) (vs := [.int v1]) (rest := [.int x2]) (ins_l hw_148 rfl) rfl rfl rfl (Nat.le_of_ble_eq_true rfl) (Nat.le_of_ble_eq_true rfl) (PW.mono h ?_)
      rintro _ σ2 ⟨v2, rfl, h⟩
      show PW none 148 57 [some (.ref 39), some (.int a), some (.int x2), some (.int x3), some (.int x4), some (.int v1)] [.int v2, .int x2] σ2 _
      refine PW.ifc (t := 64) (ins_l hw_148 rfl) rfl (fun hc3 => ?_) (fun hc3 => ?_)
      · replace h := (if_pos (c_geT hc3)).mp h
        refine PW.runs hw_148 rfl 5 (q := (64, [some (.ref 39), some (.int a), some (.int x2), some (.int x3), some (.int x4), some (.int v1)], [.int x2], σ2)) (q' := (17, [some (.ref 39), some (.int a), some (.int (x2 + (-1))), some (.int x3), some (.int (x4 + 1)), some (.int v1)], [], σ2)) rfl ?_
        exact h
      · replace h := (if_neg (c_geF hc3)).mp h
        refine PW.runs hw_148 rfl 6 (q := (60, [some (.ref 39), some (.int a), some (.int x2), some (.int x3), some (.int x4), some (.int v1)], [.int x2], σ2)) (q' := (17, [some (.ref 39), some (.int a), some (.int (x2 + 3)), some (.int x3), some (.int (x4 + 1)), some (.int v1)], [], σ2)) rfl ?_
        exact h
    · replace h := (if_neg (c_geF hc2)).mp h
      refine PW.runs hw_148 rfl 6 (q := (47, [some (.ref 39), some (.int a), some (.int x2), some (.int x3), some (.int x4), some (.int v1)], [.int x2], σ1)) (q' := (17, [some (.ref 39), some (.int a), some (.int (x2 + 0)), some (.int x3), some (.int (x4 + 1)), some (.int v1)], [], σ1)) rfl ?_
      exact h
theorem hw_149 : pins.getD 149 [] = pi_149 := rfl
/-! MapDutyModel.told.(I)I -/
set_option maxRecDepth 20000 in
theorem w_149 {a : Int32} {σ : St} {K : Int32 → St → Prop} (h : (if a = 0 then K (σ 39 0) σ else (if a = 1 then K (σ 39 1) σ else (if a = 2 then K (σ 39 6) σ else (if a = 3 then K (σ 39 9) σ else (if a = 4 then K (σ 39 14) σ else (if a = 5 then K (σ 46 13) σ else (if a = 6 then K (σ 46 10) σ else (if a = 7 then K (σ 46 11) σ else (if a = 8 then K (σ 46 12) σ else (if a = 9 then CI 144 [.ref 39] σ (fun v1 σ1 => K v1 σ1) else (if a = 10 then CI 145 [.ref 39] σ (fun v2 σ2 => K v2 σ2) else (if a = 11 then CI 146 [.ref 39] σ (fun v3 σ3 => K v3 σ3) else (if a = 12 then K (σ 39 34) σ else (if a = 13 then K (σ 39 37) σ else (if a = 14 then K (σ 39 32) σ else K (-1000000002) σ)))))))))))))))) : CI 149 [.ref 39, .int a] σ K := by
  show PW none 149 0 [some (.ref 39), some (.int a)] [] σ _
  refine PW.runs hw_149 rfl 1 (q := (0, [some (.ref 39), some (.int a)], [], σ)) (q' := (1, [some (.ref 39), some (.int a)], [.int a], σ)) rfl ?_
  by_cases c0 : a = 0
  · replace h := (if_pos c0).mp h
    refine PW.tswK (k := 0) (t := 76) (ins_l hw_149 rfl) c0 (by decide) (by decide) rfl rfl ?_
    refine PW.runs hw_149 rfl 2 (q := (76, [some (.ref 39), some (.int a)], [], σ)) (q' := (80, [some (.ref 39), some (.int a)], [.int (σ 39 0)], σ)) rfl ?_
    exact PW.iret (ins_l hw_149 rfl) (Or.inl rfl) ⟨_, rfl, h⟩
  replace h := (if_neg c0).mp h
  by_cases c1 : a = 1
  · replace h := (if_pos c1).mp h
    refine PW.tswK (k := 1) (t := 81) (ins_l hw_149 rfl) c1 (by decide) (by decide) rfl rfl ?_
    refine PW.runs hw_149 rfl 2 (q := (81, [some (.ref 39), some (.int a)], [], σ)) (q' := (85, [some (.ref 39), some (.int a)], [.int (σ 39 1)], σ)) rfl ?_
    exact PW.iret (ins_l hw_149 rfl) (Or.inl rfl) ⟨_, rfl, h⟩
  replace h := (if_neg c1).mp h
  by_cases c2 : a = 2
  · replace h := (if_pos c2).mp h
    refine PW.tswK (k := 2) (t := 86) (ins_l hw_149 rfl) c2 (by decide) (by decide) rfl rfl ?_
    refine PW.runs hw_149 rfl 2 (q := (86, [some (.ref 39), some (.int a)], [], σ)) (q' := (90, [some (.ref 39), some (.int a)], [.int (σ 39 6)], σ)) rfl ?_
    exact PW.iret (ins_l hw_149 rfl) (Or.inl rfl) ⟨_, rfl, h⟩
  replace h := (if_neg c2).mp h
  by_cases c3 : a = 3
  · replace h := (if_pos c3).mp h
    refine PW.tswK (k := 3) (t := 91) (ins_l hw_149 rfl) c3 (by decide) (by decide) rfl rfl ?_
    refine PW.runs hw_149 rfl 2 (q := (91, [some (.ref 39), some (.int a)], [], σ)) (q' := (95, [some (.ref 39), some (.int a)], [.int (σ 39 9)], σ)) rfl ?_
    exact PW.iret (ins_l hw_149 rfl) (Or.inl rfl) ⟨_, rfl, h⟩
  replace h := (if_neg c3).mp h
  by_cases c4 : a = 4
  · replace h := (if_pos c4).mp h
    refine PW.tswK (k := 4) (t := 96) (ins_l hw_149 rfl) c4 (by decide) (by decide) rfl rfl ?_
    refine PW.runs hw_149 rfl 2 (q := (96, [some (.ref 39), some (.int a)], [], σ)) (q' := (100, [some (.ref 39), some (.int a)], [.int (σ 39 14)], σ)) rfl ?_
    exact PW.iret (ins_l hw_149 rfl) (Or.inl rfl) ⟨_, rfl, h⟩
  replace h := (if_neg c4).mp h
  by_cases c5 : a = 5
  · replace h := (if_pos c5).mp h
    refine PW.tswK (k := 5) (t := 101) (ins_l hw_149 rfl) c5 (by decide) (by decide) rfl rfl ?_
    refine PW.runs hw_149 rfl 3 (q := (101, [some (.ref 39), some (.int a)], [], σ)) (q' := (107, [some (.ref 39), some (.int a)], [.int 13, .ref 46], σ)) rfl ?_
    refine PW.iald (n := 14) (ins_l hw_149 rfl) rfl (by decide) ?_
    exact PW.iret (ins_l hw_149 rfl) (Or.inl rfl) ⟨_, rfl, h⟩
  replace h := (if_neg c5).mp h
  by_cases c6 : a = 6
  · replace h := (if_pos c6).mp h
    refine PW.tswK (k := 6) (t := 109) (ins_l hw_149 rfl) c6 (by decide) (by decide) rfl rfl ?_
    refine PW.runs hw_149 rfl 3 (q := (109, [some (.ref 39), some (.int a)], [], σ)) (q' := (115, [some (.ref 39), some (.int a)], [.int 10, .ref 46], σ)) rfl ?_
    refine PW.iald (n := 14) (ins_l hw_149 rfl) rfl (by decide) ?_
    exact PW.iret (ins_l hw_149 rfl) (Or.inl rfl) ⟨_, rfl, h⟩
  replace h := (if_neg c6).mp h
  by_cases c7 : a = 7
  · replace h := (if_pos c7).mp h
    refine PW.tswK (k := 7) (t := 117) (ins_l hw_149 rfl) c7 (by decide) (by decide) rfl rfl ?_
    refine PW.runs hw_149 rfl 3 (q := (117, [some (.ref 39), some (.int a)], [], σ)) (q' := (123, [some (.ref 39), some (.int a)], [.int 11, .ref 46], σ)) rfl ?_
    refine PW.iald (n := 14) (ins_l hw_149 rfl) rfl (by decide) ?_
    exact PW.iret (ins_l hw_149 rfl) (Or.inl rfl) ⟨_, rfl, h⟩
  replace h := (if_neg c7).mp h
  by_cases c8 : a = 8
  · replace h := (if_pos c8).mp h
    refine PW.tswK (k := 8) (t := 125) (ins_l hw_149 rfl) c8 (by decide) (by decide) rfl rfl ?_
    refine PW.runs hw_149 rfl 3 (q := (125, [some (.ref 39), some (.int a)], [], σ)) (q' := (131, [some (.ref 39), some (.int a)], [.int 12, .ref 46], σ)) rfl ?_
    refine PW.iald (n := 14) (ins_l hw_149 rfl) rfl (by decide) ?_
    exact PW.iret (ins_l hw_149 rfl) (Or.inl rfl) ⟨_, rfl, h⟩
  replace h := (if_neg c8).mp h
  by_cases c9 : a = 9
  · replace h := (if_pos c9).mp h
    refine PW.tswK (k := 9) (t := 133) (ins_l hw_149 rfl) c9 (by decide) (by decide) rfl rfl ?_
    refine PW.runs hw_149 rfl 1 (q := (133, [some (.ref 39), some (.int a)], [], σ)) (q' := (134, [some (.ref 39), some (.int a)], [.ref 39], σ)) rfl ?_
    refine PW.callV (b := 39) (vs := []) (rest := []) (ins_l hw_149 rfl) rfl rfl rfl (Nat.le_of_ble_eq_true rfl) (Nat.le_of_ble_eq_true rfl) (PW.mono h ?_)
    rintro _ σ1 ⟨v1, rfl, h⟩
    show PW none 149 137 [some (.ref 39), some (.int a)] [.int v1] σ1 _
    exact PW.iret (ins_l hw_149 rfl) (Or.inl rfl) ⟨_, rfl, h⟩
  replace h := (if_neg c9).mp h
  by_cases c10 : a = 10
  · replace h := (if_pos c10).mp h
    refine PW.tswK (k := 10) (t := 138) (ins_l hw_149 rfl) c10 (by decide) (by decide) rfl rfl ?_
    refine PW.runs hw_149 rfl 1 (q := (138, [some (.ref 39), some (.int a)], [], σ)) (q' := (139, [some (.ref 39), some (.int a)], [.ref 39], σ)) rfl ?_
    refine PW.callV (b := 39) (vs := []) (rest := []) (ins_l hw_149 rfl) rfl rfl rfl (Nat.le_of_ble_eq_true rfl) (Nat.le_of_ble_eq_true rfl) (PW.mono h ?_)
    rintro _ σ2 ⟨v2, rfl, h⟩
    show PW none 149 142 [some (.ref 39), some (.int a)] [.int v2] σ2 _
    exact PW.iret (ins_l hw_149 rfl) (Or.inl rfl) ⟨_, rfl, h⟩
  replace h := (if_neg c10).mp h
  by_cases c11 : a = 11
  · replace h := (if_pos c11).mp h
    refine PW.tswK (k := 11) (t := 143) (ins_l hw_149 rfl) c11 (by decide) (by decide) rfl rfl ?_
    refine PW.runs hw_149 rfl 1 (q := (143, [some (.ref 39), some (.int a)], [], σ)) (q' := (144, [some (.ref 39), some (.int a)], [.ref 39], σ)) rfl ?_
    refine PW.callV (b := 39) (vs := []) (rest := []) (ins_l hw_149 rfl) rfl rfl rfl (Nat.le_of_ble_eq_true rfl) (Nat.le_of_ble_eq_true rfl) (PW.mono h ?_)
    rintro _ σ3 ⟨v3, rfl, h⟩
    show PW none 149 147 [some (.ref 39), some (.int a)] [.int v3] σ3 _
    exact PW.iret (ins_l hw_149 rfl) (Or.inl rfl) ⟨_, rfl, h⟩
  replace h := (if_neg c11).mp h
  by_cases c12 : a = 12
  · replace h := (if_pos c12).mp h
    refine PW.tswK (k := 12) (t := 148) (ins_l hw_149 rfl) c12 (by decide) (by decide) rfl rfl ?_
    refine PW.runs hw_149 rfl 2 (q := (148, [some (.ref 39), some (.int a)], [], σ)) (q' := (152, [some (.ref 39), some (.int a)], [.int (σ 39 34)], σ)) rfl ?_
    exact PW.iret (ins_l hw_149 rfl) (Or.inl rfl) ⟨_, rfl, h⟩
  replace h := (if_neg c12).mp h
  by_cases c13 : a = 13
  · replace h := (if_pos c13).mp h
    refine PW.tswK (k := 13) (t := 153) (ins_l hw_149 rfl) c13 (by decide) (by decide) rfl rfl ?_
    refine PW.runs hw_149 rfl 2 (q := (153, [some (.ref 39), some (.int a)], [], σ)) (q' := (157, [some (.ref 39), some (.int a)], [.int (σ 39 37)], σ)) rfl ?_
    exact PW.iret (ins_l hw_149 rfl) (Or.inl rfl) ⟨_, rfl, h⟩
  replace h := (if_neg c13).mp h
  by_cases c14 : a = 14
  · replace h := (if_pos c14).mp h
    refine PW.tswK (k := 14) (t := 158) (ins_l hw_149 rfl) c14 (by decide) (by decide) rfl rfl ?_
    refine PW.runs hw_149 rfl 2 (q := (158, [some (.ref 39), some (.int a)], [], σ)) (q' := (162, [some (.ref 39), some (.int a)], [.int (σ 39 32)], σ)) rfl ?_
    exact PW.iret (ins_l hw_149 rfl) (Or.inl rfl) ⟨_, rfl, h⟩
  replace h := (if_neg c14).mp h
  have hD : PI 149 163 [some (.ref 39), some (.int a)] [] σ K := by
    refine PW.runs hw_149 rfl 1 (q := (163, [some (.ref 39), some (.int a)], [], σ)) (q' := (165, [some (.ref 39), some (.int a)], [.int (-1000000002)], σ)) rfl ?_
    exact PW.iret (ins_l hw_149 rfl) (Or.inl rfl) ⟨_, rfl, h⟩
  refine PW.tswD (t := 163) (ins_l hw_149 rfl) ?_ rfl hD
  have zc0 := tne c0 (k := 0) rfl
  have zc1 := tne c1 (k := 1) rfl
  have zc2 := tne c2 (k := 2) rfl
  have zc3 := tne c3 (k := 3) rfl
  have zc4 := tne c4 (k := 4) rfl
  have zc5 := tne c5 (k := 5) rfl
  have zc6 := tne c6 (k := 6) rfl
  have zc7 := tne c7 (k := 7) rfl
  have zc8 := tne c8 (k := 8) rfl
  have zc9 := tne c9 (k := 9) rfl
  have zc10 := tne c10 (k := 10) rfl
  have zc11 := tne c11 (k := 11) rfl
  have zc12 := tne c12 (k := 12) rfl
  have zc13 := tne c13 (k := 13) rfl
  have zc14 := tne c14 (k := 14) rfl
  omega
theorem hw_152 : pins.getD 152 [] = pi_152 := rfl
/-! MapDutyModel.map.(II)I -/
set_option maxRecDepth 20000 in
theorem w_152 {a : Int32} {b : Int32} {σ : St} {K : Int32 → St → Prop} (h : CI 115 [.ref 39, .int a] σ (fun v1 σ1 => (if v1 = 0 then K (-1000000001) σ1 else (if b = 0 then ((0 ≤ a.toInt ∧ a.toInt < 5) ∧ K (σ1 43 (Int32.toNatClampNeg a)) σ1) else (if b = 1 then ((0 ≤ a.toInt ∧ a.toInt < 14) ∧ K (σ1 46 (Int32.toNatClampNeg a)) σ1) else (if b = 2 then CI 136 [.ref 39, .int a] σ1 (fun v2 σ2 => K v2 σ2) else (if b = 3 then ((0 ≤ (5 + a).toInt ∧ (5 + a).toInt < 14) ∧ K (σ1 46 (Int32.toNatClampNeg (5 + a))) σ1) else (if b = 4 then CI 137 [.ref 39, .int a] σ1 (fun v3 σ3 => K v3 σ3) else (if b = 5 then CI 147 [.ref 39, .int a] σ1 (fun v4 σ4 => K v4 σ4) else (if b = 6 then CI 148 [.ref 39, .int a] σ1 (fun v5 σ5 => K v5 σ5) else K (-1000000002) σ1)))))))))) : CI 152 [.ref 39, .int a, .int b] σ K := by
  show PW none 152 0 [some (.ref 39), some (.int a), some (.int b)] [] σ _
  refine PW.runs hw_152 rfl 2 (q := (0, [some (.ref 39), some (.int a), some (.int b)], [], σ)) (q' := (2, [some (.ref 39), some (.int a), some (.int b)], [.int a, .ref 39], σ)) rfl ?_
  refine PW.callV (b := 39) (vs := [.int a]) (rest := []) (ins_l hw_152 rfl) rfl rfl rfl (Nat.le_of_ble_eq_true rfl) (Nat.le_of_ble_eq_true rfl) (PW.mono h ?_)
  rintro _ σ1 ⟨v1, rfl, h⟩
  show PW none 152 5 [some (.ref 39), some (.int a), some (.int b)] [.int v1] σ1 _
  refine PW.ifc (t := 11) (ins_l hw_152 rfl) rfl (fun hc1 => ?_) (fun hc1 => ?_)
  · replace h := (if_neg (c_neT hc1)).mp h
    refine PW.runs hw_152 rfl 1 (q := (11, [some (.ref 39), some (.int a), some (.int b)], [], σ1)) (q' := (12, [some (.ref 39), some (.int a), some (.int b)], [.int b], σ1)) rfl ?_
    by_cases c0 : b = 0
    · replace h := (if_pos c0).mp h
      refine PW.tswK (k := 0) (t := 56) (ins_l hw_152 rfl) c0 (by decide) (by decide) rfl rfl ?_
      refine PW.runs hw_152 rfl 3 (q := (56, [some (.ref 39), some (.int a), some (.int b)], [], σ1)) (q' := (61, [some (.ref 39), some (.int a), some (.int b)], [.int a, .ref 43], σ1)) rfl ?_
      obtain ⟨hb1, h⟩ := h
      refine PW.iald (n := 5) (ins_l hw_152 rfl) rfl (idx_in hb1.1 hb1.2).1 ?_
      exact PW.iret (ins_l hw_152 rfl) (Or.inl rfl) ⟨_, rfl, h⟩
    replace h := (if_neg c0).mp h
    by_cases c1 : b = 1
    · replace h := (if_pos c1).mp h
      refine PW.tswK (k := 1) (t := 63) (ins_l hw_152 rfl) c1 (by decide) (by decide) rfl rfl ?_
      refine PW.runs hw_152 rfl 3 (q := (63, [some (.ref 39), some (.int a), some (.int b)], [], σ1)) (q' := (68, [some (.ref 39), some (.int a), some (.int b)], [.int a, .ref 46], σ1)) rfl ?_
      obtain ⟨hb1, h⟩ := h
      refine PW.iald (n := 14) (ins_l hw_152 rfl) rfl (idx_in hb1.1 hb1.2).1 ?_
      exact PW.iret (ins_l hw_152 rfl) (Or.inl rfl) ⟨_, rfl, h⟩
    replace h := (if_neg c1).mp h
    by_cases c2 : b = 2
    · replace h := (if_pos c2).mp h
      refine PW.tswK (k := 2) (t := 70) (ins_l hw_152 rfl) c2 (by decide) (by decide) rfl rfl ?_
      refine PW.runs hw_152 rfl 2 (q := (70, [some (.ref 39), some (.int a), some (.int b)], [], σ1)) (q' := (72, [some (.ref 39), some (.int a), some (.int b)], [.int a, .ref 39], σ1)) rfl ?_
      refine PW.callV (b := 39) (vs := [.int a]) (rest := []) (ins_l hw_152 rfl) rfl rfl rfl (Nat.le_of_ble_eq_true rfl) (Nat.le_of_ble_eq_true rfl) (PW.mono h ?_)
      rintro _ σ2 ⟨v2, rfl, h⟩
      show PW none 152 75 [some (.ref 39), some (.int a), some (.int b)] [.int v2] σ2 _
      exact PW.iret (ins_l hw_152 rfl) (Or.inl rfl) ⟨_, rfl, h⟩
    replace h := (if_neg c2).mp h
    by_cases c3 : b = 3
    · replace h := (if_pos c3).mp h
      refine PW.tswK (k := 3) (t := 76) (ins_l hw_152 rfl) c3 (by decide) (by decide) rfl rfl ?_
      refine PW.runs hw_152 rfl 5 (q := (76, [some (.ref 39), some (.int a), some (.int b)], [], σ1)) (q' := (83, [some (.ref 39), some (.int a), some (.int b)], [.int (5 + a), .ref 46], σ1)) rfl ?_
      obtain ⟨hb1, h⟩ := h
      refine PW.iald (n := 14) (ins_l hw_152 rfl) rfl (idx_in hb1.1 hb1.2).1 ?_
      exact PW.iret (ins_l hw_152 rfl) (Or.inl rfl) ⟨_, rfl, h⟩
    replace h := (if_neg c3).mp h
    by_cases c4 : b = 4
    · replace h := (if_pos c4).mp h
      refine PW.tswK (k := 4) (t := 85) (ins_l hw_152 rfl) c4 (by decide) (by decide) rfl rfl ?_
      refine PW.runs hw_152 rfl 2 (q := (85, [some (.ref 39), some (.int a), some (.int b)], [], σ1)) (q' := (87, [some (.ref 39), some (.int a), some (.int b)], [.int a, .ref 39], σ1)) rfl ?_
      refine PW.callV (b := 39) (vs := [.int a]) (rest := []) (ins_l hw_152 rfl) rfl rfl rfl (Nat.le_of_ble_eq_true rfl) (Nat.le_of_ble_eq_true rfl) (PW.mono h ?_)
      rintro _ σ3 ⟨v3, rfl, h⟩
      show PW none 152 90 [some (.ref 39), some (.int a), some (.int b)] [.int v3] σ3 _
      exact PW.iret (ins_l hw_152 rfl) (Or.inl rfl) ⟨_, rfl, h⟩
    replace h := (if_neg c4).mp h
    by_cases c5 : b = 5
    · replace h := (if_pos c5).mp h
      refine PW.tswK (k := 5) (t := 91) (ins_l hw_152 rfl) c5 (by decide) (by decide) rfl rfl ?_
      refine PW.runs hw_152 rfl 2 (q := (91, [some (.ref 39), some (.int a), some (.int b)], [], σ1)) (q' := (93, [some (.ref 39), some (.int a), some (.int b)], [.int a, .ref 39], σ1)) rfl ?_
      refine PW.callV (b := 39) (vs := [.int a]) (rest := []) (ins_l hw_152 rfl) rfl rfl rfl (Nat.le_of_ble_eq_true rfl) (Nat.le_of_ble_eq_true rfl) (PW.mono h ?_)
      rintro _ σ4 ⟨v4, rfl, h⟩
      show PW none 152 96 [some (.ref 39), some (.int a), some (.int b)] [.int v4] σ4 _
      exact PW.iret (ins_l hw_152 rfl) (Or.inl rfl) ⟨_, rfl, h⟩
    replace h := (if_neg c5).mp h
    by_cases c6 : b = 6
    · replace h := (if_pos c6).mp h
      refine PW.tswK (k := 6) (t := 97) (ins_l hw_152 rfl) c6 (by decide) (by decide) rfl rfl ?_
      refine PW.runs hw_152 rfl 2 (q := (97, [some (.ref 39), some (.int a), some (.int b)], [], σ1)) (q' := (99, [some (.ref 39), some (.int a), some (.int b)], [.int a, .ref 39], σ1)) rfl ?_
      refine PW.callV (b := 39) (vs := [.int a]) (rest := []) (ins_l hw_152 rfl) rfl rfl rfl (Nat.le_of_ble_eq_true rfl) (Nat.le_of_ble_eq_true rfl) (PW.mono h ?_)
      rintro _ σ5 ⟨v5, rfl, h⟩
      show PW none 152 102 [some (.ref 39), some (.int a), some (.int b)] [.int v5] σ5 _
      exact PW.iret (ins_l hw_152 rfl) (Or.inl rfl) ⟨_, rfl, h⟩
    replace h := (if_neg c6).mp h
    have hD : PI 152 103 [some (.ref 39), some (.int a), some (.int b)] [] σ1 K := by
      refine PW.runs hw_152 rfl 1 (q := (103, [some (.ref 39), some (.int a), some (.int b)], [], σ1)) (q' := (105, [some (.ref 39), some (.int a), some (.int b)], [.int (-1000000002)], σ1)) rfl ?_
      exact PW.iret (ins_l hw_152 rfl) (Or.inl rfl) ⟨_, rfl, h⟩
    refine PW.tswD (t := 103) (ins_l hw_152 rfl) ?_ rfl hD
    have zc0 := tne c0 (k := 0) rfl
    have zc1 := tne c1 (k := 1) rfl
    have zc2 := tne c2 (k := 2) rfl
    have zc3 := tne c3 (k := 3) rfl
    have zc4 := tne c4 (k := 4) rfl
    have zc5 := tne c5 (k := 5) rfl
    have zc6 := tne c6 (k := 6) rfl
    omega
  · replace h := (if_pos (c_neF hc1)).mp h
    refine PW.runs hw_152 rfl 1 (q := (8, [some (.ref 39), some (.int a), some (.int b)], [], σ1)) (q' := (10, [some (.ref 39), some (.int a), some (.int b)], [.int (-1000000001)], σ1)) rfl ?_
    exact PW.iret (ins_l hw_152 rfl) (Or.inl rfl) ⟨_, rfl, h⟩
