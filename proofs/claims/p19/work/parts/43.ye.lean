/-! code: least, lands -/
theorem hw_4 : pins.getD 4 [] = pi_4 := rfl
/-! MapDuty$Book.allMadeBy.(LMapDuty$Roads;I)Z -/
set_option maxRecDepth 20000 in
theorem w_4 {a : Int32} {σ : St} {K : Int32 → St → Prop} (h : PI 4 2 [some (.ref 29), some (.ref 27), some (.int a), some (.int 0)] [] σ K) : CI 4 [.ref 29, .ref 27, .int a] σ K := by
  show PW none 4 0 [some (.ref 29), some (.ref 27), some (.int a), none] [] σ _
  refine PW.runs hw_4 rfl 2 (q := (0, [some (.ref 29), some (.ref 27), some (.int a), none], [], σ)) (q' := (2, [some (.ref 29), some (.ref 27), some (.int a), some (.int 0)], [], σ)) rfl ?_
  exact h
set_option maxRecDepth 20000 in
theorem w_4_2 {a : Int32} {x3 : Int32} {σ : St} {K : Int32 → St → Prop} (h : (if (σ 29 0) ≤ x3 then K 1 σ else ((0 ≤ x3.toInt ∧ x3.toInt < 4) ∧ CI 37 [.ref 27, .int a, .int (σ 30 (Int32.toNatClampNeg x3))] σ (fun v1 σ1 => CI 92 [.int v1, .int (σ1 31 (Int32.toNatClampNeg x3))] σ1 (fun v2 σ2 => (if v2 = 0 then K 0 σ2 else PI 4 2 [some (.ref 29), some (.ref 27), some (.int a), some (.int (x3 + 1))] [] σ2 K)))))) : PI 4 2 [some (.ref 29), some (.ref 27), some (.int a), some (.int x3)] [] σ K := by
  show PW none 4 2 [some (.ref 29), some (.ref 27), some (.int a), some (.int x3)] [] σ _
  refine PW.runs hw_4 rfl 3 (q := (2, [some (.ref 29), some (.ref 27), some (.int a), some (.int x3)], [], σ)) (q' := (7, [some (.ref 29), some (.ref 27), some (.int a), some (.int x3)], [.int (σ 29 0), .int x3], σ)) rfl ?_
  refine PW.icm (t := 41) (ins_l hw_4 rfl) rfl (fun hc1 => ?_) (fun hc1 => ?_)
  · replace h := (if_pos (c_geT hc1)).mp h
    refine PW.runs hw_4 rfl 1 (q := (41, [some (.ref 29), some (.ref 27), some (.int a), some (.int x3)], [], σ)) (q' := (42, [some (.ref 29), some (.ref 27), some (.int a), some (.int x3)], [.int 1], σ)) rfl ?_
    exact PW.iret (ins_l hw_4 rfl) (Or.inr ⟨rfl, by decide⟩) ⟨_, rfl, h⟩
  · replace h := (if_neg (c_geF hc1)).mp h
    refine PW.runs hw_4 rfl 5 (q := (10, [some (.ref 29), some (.ref 27), some (.int a), some (.int x3)], [], σ)) (q' := (17, [some (.ref 29), some (.ref 27), some (.int a), some (.int x3)], [.int x3, .ref 30, .int a, .ref 27], σ)) rfl ?_
    obtain ⟨hb1, h⟩ := h
    refine PW.iald (n := 4) (ins_l hw_4 rfl) rfl (idx_in hb1.1 hb1.2).1 ?_
    refine PW.callV (b := 27) (vs := [.int a, .int (σ 30 (Int32.toNatClampNeg x3))]) (rest := []) (ins_l hw_4 rfl) rfl rfl rfl (Nat.le_of_ble_eq_true rfl) (Nat.le_of_ble_eq_true rfl) (PW.mono h ?_)
    rintro _ σ1 ⟨v1, rfl, h⟩
    show PW none 4 21 [some (.ref 29), some (.ref 27), some (.int a), some (.int x3)] [.int v1] σ1 _
    refine PW.runs hw_4 rfl 3 (q := (21, [some (.ref 29), some (.ref 27), some (.int a), some (.int x3)], [.int v1], σ1)) (q' := (26, [some (.ref 29), some (.ref 27), some (.int a), some (.int x3)], [.int x3, .ref 31, .int v1], σ1)) rfl ?_
    refine PW.iald (n := 4) (ins_l hw_4 rfl) rfl (idx_in hb1.1 hb1.2).1 ?_
    refine PW.callS (vs := [.int v1, .int (σ1 31 (Int32.toNatClampNeg x3))]) (rest := []) (ins_l hw_4 rfl) rfl (Or.inr rfl) rfl (Nat.le_of_ble_eq_true rfl) (Nat.le_of_ble_eq_true rfl) (PW.mono h ?_)
    rintro _ σ2 ⟨v2, rfl, h⟩
    show PW none 4 30 [some (.ref 29), some (.ref 27), some (.int a), some (.int x3)] [.int v2] σ2 _
    refine PW.ifc (t := 35) (ins_l hw_4 rfl) rfl (fun hc2 => ?_) (fun hc2 => ?_)
    · replace h := (if_neg (c_neT hc2)).mp h
      refine PW.runs hw_4 rfl 2 (q := (35, [some (.ref 29), some (.ref 27), some (.int a), some (.int x3)], [], σ2)) (q' := (2, [some (.ref 29), some (.ref 27), some (.int a), some (.int (x3 + 1))], [], σ2)) rfl ?_
      exact h
    · replace h := (if_pos (c_neF hc2)).mp h
      refine PW.runs hw_4 rfl 1 (q := (33, [some (.ref 29), some (.ref 27), some (.int a), some (.int x3)], [], σ2)) (q' := (34, [some (.ref 29), some (.ref 27), some (.int a), some (.int x3)], [.int 0], σ2)) rfl ?_
      exact PW.iret (ins_l hw_4 rfl) (Or.inr ⟨rfl, by decide⟩) ⟨_, rfl, h⟩
theorem hw_70 : pins.getD 70 [] = pi_70 := rfl
/-! MapDuty.least.(II)I -/
set_option maxRecDepth 20000 in
theorem w_70 {a : Int32} {b : Int32} {σ : St} {K : Int32 → St → Prop} (h : CI 91 [.int a, .int 0, .int 4] σ (fun v1 σ1 => (if v1 = 0 then K (-1000000002) σ1 else CI 91 [.int b, .int 0, .int 1] σ1 (fun v2 σ2 => (if v2 = 0 then K (-1000000002) σ2 else CI 4 [.ref 29, .ref 27, .int (σ2 19 0)] σ2 (fun v3 σ3 => (if v3 = 0 then K (-1) σ3 else CI 105 [.ref 0, .int a] σ3 (fun v4 σ4 => (if b = 0 then CI 20 [.ref 11, .int a, .int v4, .int (σ4 19 0)] σ4 (fun v5 σ5 => K v5 σ5) else K v4 σ4))))))))) : CI 70 [.ref 0, .int a, .int b] σ K := by
  show PW none 70 0 [some (.ref 0), some (.int a), some (.int b), none] [] σ _
  refine PW.runs hw_70 rfl 3 (q := (0, [some (.ref 0), some (.int a), some (.int b), none], [], σ)) (q' := (3, [some (.ref 0), some (.int a), some (.int b), none], [.int 4, .int 0, .int a], σ)) rfl ?_
  refine PW.callS (vs := [.int a, .int 0, .int 4]) (rest := []) (ins_l hw_70 rfl) rfl (Or.inl rfl) rfl (Nat.le_of_ble_eq_true rfl) (Nat.le_of_ble_eq_true rfl) (PW.mono h ?_)
  rintro _ σ1 ⟨v1, rfl, h⟩
  show PW none 70 6 [some (.ref 0), some (.int a), some (.int b), none] [.int v1] σ1 _
  refine PW.ifc (t := 18) (ins_l hw_70 rfl) rfl (fun hc1 => ?_) (fun hc1 => ?_)
  · replace h := (if_pos (c_eqT hc1)).mp h
    refine PW.runs hw_70 rfl 1 (q := (18, [some (.ref 0), some (.int a), some (.int b), none], [], σ1)) (q' := (20, [some (.ref 0), some (.int a), some (.int b), none], [.int (-1000000002)], σ1)) rfl ?_
    exact PW.iret (ins_l hw_70 rfl) (Or.inl rfl) ⟨_, rfl, h⟩
  · replace h := (if_neg (c_eqF hc1)).mp h
    refine PW.runs hw_70 rfl 3 (q := (9, [some (.ref 0), some (.int a), some (.int b), none], [], σ1)) (q' := (12, [some (.ref 0), some (.int a), some (.int b), none], [.int 1, .int 0, .int b], σ1)) rfl ?_
    refine PW.callS (vs := [.int b, .int 0, .int 1]) (rest := []) (ins_l hw_70 rfl) rfl (Or.inl rfl) rfl (Nat.le_of_ble_eq_true rfl) (Nat.le_of_ble_eq_true rfl) (PW.mono h ?_)
    rintro _ σ2 ⟨v2, rfl, h⟩
    show PW none 70 15 [some (.ref 0), some (.int a), some (.int b), none] [.int v2] σ2 _
    refine PW.ifc (t := 21) (ins_l hw_70 rfl) rfl (fun hc2 => ?_) (fun hc2 => ?_)
    · replace h := (if_neg (c_neT hc2)).mp h
      refine PW.runs hw_70 rfl 7 (q := (21, [some (.ref 0), some (.int a), some (.int b), none], [], σ2)) (q' := (36, [some (.ref 0), some (.int a), some (.int b), none], [.int (σ2 19 0), .ref 27, .ref 29], σ2)) rfl ?_
      refine PW.callV (b := 29) (vs := [.ref 27, .int (σ2 19 0)]) (rest := []) (ins_l hw_70 rfl) rfl rfl rfl (Nat.le_of_ble_eq_true rfl) (Nat.le_of_ble_eq_true rfl) (PW.mono h ?_)
      rintro _ σ3 ⟨v3, rfl, h⟩
      show PW none 70 39 [some (.ref 0), some (.int a), some (.int b), none] [.int v3] σ3 _
      refine PW.ifc (t := 44) (ins_l hw_70 rfl) rfl (fun hc3 => ?_) (fun hc3 => ?_)
      · replace h := (if_neg (c_neT hc3)).mp h
        refine PW.runs hw_70 rfl 2 (q := (44, [some (.ref 0), some (.int a), some (.int b), none], [], σ3)) (q' := (46, [some (.ref 0), some (.int a), some (.int b), none], [.int a, .ref 0], σ3)) rfl ?_
        refine PW.callV (b := 0) (vs := [.int a]) (rest := []) (ins_l hw_70 rfl) rfl rfl rfl (Nat.le_of_ble_eq_true rfl) (Nat.le_of_ble_eq_true rfl) (PW.mono h ?_)
        rintro _ σ4 ⟨v4, rfl, h⟩
        show PW none 70 49 [some (.ref 0), some (.int a), some (.int b), none] [.int v4] σ4 _
        refine PW.runs hw_70 rfl 2 (q := (49, [some (.ref 0), some (.int a), some (.int b), none], [.int v4], σ4)) (q' := (51, [some (.ref 0), some (.int a), some (.int b), some (.int v4)], [.int b], σ4)) rfl ?_
        refine PW.ifc (t := 73) (ins_l hw_70 rfl) rfl (fun hc4 => ?_) (fun hc4 => ?_)
        · replace h := (if_neg (c_neT hc4)).mp h
          refine PW.runs hw_70 rfl 1 (q := (73, [some (.ref 0), some (.int a), some (.int b), some (.int v4)], [], σ4)) (q' := (74, [some (.ref 0), some (.int a), some (.int b), some (.int v4)], [.int v4], σ4)) rfl ?_
          exact PW.iret (ins_l hw_70 rfl) (Or.inl rfl) ⟨_, rfl, h⟩
        · replace h := (if_pos (c_neF hc4)).mp h
          refine PW.runs hw_70 rfl 7 (q := (54, [some (.ref 0), some (.int a), some (.int b), some (.int v4)], [], σ4)) (q' := (67, [some (.ref 0), some (.int a), some (.int b), some (.int v4)], [.int (σ4 19 0), .int v4, .int a, .ref 11], σ4)) rfl ?_
          refine PW.callV (b := 11) (vs := [.int a, .int v4, .int (σ4 19 0)]) (rest := []) (ins_l hw_70 rfl) rfl rfl rfl (Nat.le_of_ble_eq_true rfl) (Nat.le_of_ble_eq_true rfl) (PW.mono h ?_)
          rintro _ σ5 ⟨v5, rfl, h⟩
          show PW none 70 70 [some (.ref 0), some (.int a), some (.int b), some (.int v4)] [.int v5] σ5 _
          refine PW.runs hw_70 rfl 1 (q := (70, [some (.ref 0), some (.int a), some (.int b), some (.int v4)], [.int v5], σ5)) (q' := (74, [some (.ref 0), some (.int a), some (.int b), some (.int v4)], [.int v5], σ5)) rfl ?_
          exact PW.iret (ins_l hw_70 rfl) (Or.inl rfl) ⟨_, rfl, h⟩
      · replace h := (if_pos (c_neF hc3)).mp h
        refine PW.runs hw_70 rfl 1 (q := (42, [some (.ref 0), some (.int a), some (.int b), none], [], σ3)) (q' := (43, [some (.ref 0), some (.int a), some (.int b), none], [.int (-1)], σ3)) rfl ?_
        exact PW.iret (ins_l hw_70 rfl) (Or.inl rfl) ⟨_, rfl, h⟩
    · replace h := (if_pos (c_neF hc2)).mp h
      refine PW.runs hw_70 rfl 1 (q := (18, [some (.ref 0), some (.int a), some (.int b), none], [], σ2)) (q' := (20, [some (.ref 0), some (.int a), some (.int b), none], [.int (-1000000002)], σ2)) rfl ?_
      exact PW.iret (ins_l hw_70 rfl) (Or.inl rfl) ⟨_, rfl, h⟩
theorem hw_105 : pins.getD 105 [] = pi_105 := rfl
/-! MapDuty.leastSet.(I)I -/
set_option maxRecDepth 20000 in
theorem w_105 {a : Int32} {σ : St} {K : Int32 → St → Prop} (h : CV 52 [.ref 34, .ref 11, .int a] σ (fun σ1 => CI 53 [.ref 34, .int (σ 19 0)] σ1 (fun v2 σ2 => CI 192 [.int (σ 19 0)] σ2 (fun v3 σ3 => PI 105 48 [some (.ref 0), some (.int a), some (.int (σ 19 0)), some (.int (σ 19 0)), some (.int (v2 + 1)), some (.int (1 <<< (v3 &&& 31))), some (.int 0), some (.int 0), none] [] σ3 K)))) : CI 105 [.ref 0, .int a] σ K := by
  show PW none 105 0 [some (.ref 0), some (.int a), none, none, none, none, none, none, none] [] σ _
  refine PW.runs hw_105 rfl 9 (q := (0, [some (.ref 0), some (.int a), none, none, none, none, none, none, none], [], σ)) (q' := (17, [some (.ref 0), some (.int a), some (.int (σ 19 0)), none, none, none, none, none, none], [.int a, .ref 11, .ref 34], σ)) rfl ?_
  refine PW.callV (b := 34) (vs := [.ref 11, .int a]) (rest := []) (ins_l hw_105 rfl) rfl rfl rfl (Nat.le_of_ble_eq_true rfl) (Nat.le_of_ble_eq_true rfl) (PW.mono h ?_)
  rintro _ σ1 ⟨rfl, h⟩
  show PW none 105 20 [some (.ref 0), some (.int a), some (.int (σ 19 0)), none, none, none, none, none, none] [] σ1 _
  refine PW.runs hw_105 rfl 5 (q := (20, [some (.ref 0), some (.int a), some (.int (σ 19 0)), none, none, none, none, none, none], [], σ1)) (q' := (27, [some (.ref 0), some (.int a), some (.int (σ 19 0)), some (.int (σ 19 0)), none, none, none, none, none], [.int (σ 19 0), .ref 34], σ1)) rfl ?_
  refine PW.callV (b := 34) (vs := [.int (σ 19 0)]) (rest := []) (ins_l hw_105 rfl) rfl rfl rfl (Nat.le_of_ble_eq_true rfl) (Nat.le_of_ble_eq_true rfl) (PW.mono h ?_)
  rintro _ σ2 ⟨v2, rfl, h⟩
  show PW none 105 30 [some (.ref 0), some (.int a), some (.int (σ 19 0)), some (.int (σ 19 0)), none, none, none, none, none] [.int v2] σ2 _
  refine PW.runs hw_105 rfl 5 (q := (30, [some (.ref 0), some (.int a), some (.int (σ 19 0)), some (.int (σ 19 0)), none, none, none, none, none], [.int v2], σ2)) (q' := (36, [some (.ref 0), some (.int a), some (.int (σ 19 0)), some (.int (σ 19 0)), some (.int (v2 + 1)), none, none, none, none], [.int (σ 19 0), .int 1], σ2)) rfl ?_
  refine PW.callS (vs := [.int (σ 19 0)]) (rest := [.int 1]) (ins_l hw_105 rfl) rfl (Or.inl rfl) rfl (Nat.le_of_ble_eq_true rfl) (Nat.le_of_ble_eq_true rfl) (PW.mono h ?_)
  rintro _ σ3 ⟨v3, rfl, h⟩
  show PW none 105 39 [some (.ref 0), some (.int a), some (.int (σ 19 0)), some (.int (σ 19 0)), some (.int (v2 + 1)), none, none, none, none] [.int v3, .int 1] σ3 _
  refine PW.runs hw_105 rfl 6 (q := (39, [some (.ref 0), some (.int a), some (.int (σ 19 0)), some (.int (σ 19 0)), some (.int (v2 + 1)), none, none, none, none], [.int v3, .int 1], σ3)) (q' := (48, [some (.ref 0), some (.int a), some (.int (σ 19 0)), some (.int (σ 19 0)), some (.int (v2 + 1)), some (.int (1 <<< (v3 &&& 31))), some (.int 0), some (.int 0), none], [], σ3)) rfl ?_
  exact h
set_option maxRecDepth 20000 in
theorem w_105_48 {a : Int32} {x2 : Int32} {x3 : Int32} {x4 : Int32} {x5 : Int32} {x6 : Int32} {x7 : Int32} {o8 : Option Value} {σ : St} {K : Int32 → St → Prop} (h : (if x5 ≤ x7 then K x3 σ else CI 53 [.ref 34, .int x6] σ (fun v1 σ1 => (if x4 ≤ v1 then PI 105 48 [some (.ref 0), some (.int a), some (.int x2), some (.int x3), some (.int x4), some (.int x5), some (.int ((x6 - x2) &&& x2)), some (.int (x7 + 1)), some (.int v1)] [] σ1 K else CI 4 [.ref 29, .ref 27, .int x6] σ1 (fun v2 σ2 => (if v2 = 0 then PI 105 48 [some (.ref 0), some (.int a), some (.int x2), some (.int x3), some (.int x4), some (.int x5), some (.int ((x6 - x2) &&& x2)), some (.int (x7 + 1)), some (.int v1)] [] σ2 K else PI 105 48 [some (.ref 0), some (.int a), some (.int x2), some (.int x6), some (.int v1), some (.int x5), some (.int ((x6 - x2) &&& x2)), some (.int (x7 + 1)), some (.int v1)] [] σ2 K)))))) : PI 105 48 [some (.ref 0), some (.int a), some (.int x2), some (.int x3), some (.int x4), some (.int x5), some (.int x6), some (.int x7), o8] [] σ K := by
  show PW none 105 48 [some (.ref 0), some (.int a), some (.int x2), some (.int x3), some (.int x4), some (.int x5), some (.int x6), some (.int x7), o8] [] σ _
  refine PW.runs hw_105 rfl 2 (q := (48, [some (.ref 0), some (.int a), some (.int x2), some (.int x3), some (.int x4), some (.int x5), some (.int x6), some (.int x7), o8], [], σ)) (q' := (52, [some (.ref 0), some (.int a), some (.int x2), some (.int x3), some (.int x4), some (.int x5), some (.int x6), some (.int x7), o8], [.int x5, .int x7], σ)) rfl ?_
  refine PW.icm (t := 110) (ins_l hw_105 rfl) rfl (fun hc1 => ?_) (fun hc1 => ?_)
  · replace h := (if_pos (c_geT hc1)).mp h
    refine PW.runs hw_105 rfl 1 (q := (110, [some (.ref 0), some (.int a), some (.int x2), some (.int x3), some (.int x4), some (.int x5), some (.int x6), some (.int x7), o8], [], σ)) (q' := (111, [some (.ref 0), some (.int a), some (.int x2), some (.int x3), some (.int x4), some (.int x5), some (.int x6), some (.int x7), o8], [.int x3], σ)) rfl ?_
    exact PW.iret (ins_l hw_105 rfl) (Or.inl rfl) ⟨_, rfl, h⟩
  · replace h := (if_neg (c_geF hc1)).mp h
    refine PW.runs hw_105 rfl 3 (q := (55, [some (.ref 0), some (.int a), some (.int x2), some (.int x3), some (.int x4), some (.int x5), some (.int x6), some (.int x7), o8], [], σ)) (q' := (61, [some (.ref 0), some (.int a), some (.int x2), some (.int x3), some (.int x4), some (.int x5), some (.int x6), some (.int x7), o8], [.int x6, .ref 34], σ)) rfl ?_
    refine PW.callV (b := 34) (vs := [.int x6]) (rest := []) (ins_l hw_105 rfl) rfl rfl rfl (Nat.le_of_ble_eq_true rfl) (Nat.le_of_ble_eq_true rfl) (PW.mono h ?_)
    rintro _ σ1 ⟨v1, rfl, h⟩
    show PW none 105 64 [some (.ref 0), some (.int a), some (.int x2), some (.int x3), some (.int x4), some (.int x5), some (.int x6), some (.int x7), o8] [.int v1] σ1 _
    refine PW.runs hw_105 rfl 3 (q := (64, [some (.ref 0), some (.int a), some (.int x2), some (.int x3), some (.int x4), some (.int x5), some (.int x6), some (.int x7), o8], [.int v1], σ1)) (q' := (70, [some (.ref 0), some (.int a), some (.int x2), some (.int x3), some (.int x4), some (.int x5), some (.int x6), some (.int x7), some (.int v1)], [.int x4, .int v1], σ1)) rfl ?_
    refine PW.icm (t := 96) (ins_l hw_105 rfl) rfl (fun hc2 => ?_) (fun hc2 => ?_)
    · replace h := (if_pos (c_geT hc2)).mp h
      refine PW.runs hw_105 rfl 8 (q := (96, [some (.ref 0), some (.int a), some (.int x2), some (.int x3), some (.int x4), some (.int x5), some (.int x6), some (.int x7), some (.int v1)], [], σ1)) (q' := (48, [some (.ref 0), some (.int a), some (.int x2), some (.int x3), some (.int x4), some (.int x5), some (.int ((x6 - x2) &&& x2)), some (.int (x7 + 1)), some (.int v1)], [], σ1)) rfl ?_
      exact h
    · replace h := (if_neg (c_geF hc2)).mp h
      refine PW.runs hw_105 rfl 5 (q := (73, [some (.ref 0), some (.int a), some (.int x2), some (.int x3), some (.int x4), some (.int x5), some (.int x6), some (.int x7), some (.int v1)], [], σ1)) (q' := (83, [some (.ref 0), some (.int a), some (.int x2), some (.int x3), some (.int x4), some (.int x5), some (.int x6), some (.int x7), some (.int v1)], [.int x6, .ref 27, .ref 29], σ1)) rfl ?_
      refine PW.callV (b := 29) (vs := [.ref 27, .int x6]) (rest := []) (ins_l hw_105 rfl) rfl rfl rfl (Nat.le_of_ble_eq_true rfl) (Nat.le_of_ble_eq_true rfl) (PW.mono h ?_)
      rintro _ σ2 ⟨v2, rfl, h⟩
      show PW none 105 86 [some (.ref 0), some (.int a), some (.int x2), some (.int x3), some (.int x4), some (.int x5), some (.int x6), some (.int x7), some (.int v1)] [.int v2] σ2 _
      refine PW.ifc (t := 96) (ins_l hw_105 rfl) rfl (fun hc3 => ?_) (fun hc3 => ?_)
      · replace h := (if_pos (c_eqT hc3)).mp h
        refine PW.runs hw_105 rfl 8 (q := (96, [some (.ref 0), some (.int a), some (.int x2), some (.int x3), some (.int x4), some (.int x5), some (.int x6), some (.int x7), some (.int v1)], [], σ2)) (q' := (48, [some (.ref 0), some (.int a), some (.int x2), some (.int x3), some (.int x4), some (.int x5), some (.int ((x6 - x2) &&& x2)), some (.int (x7 + 1)), some (.int v1)], [], σ2)) rfl ?_
        exact h
      · replace h := (if_neg (c_eqF hc3)).mp h
        refine PW.runs hw_105 rfl 12 (q := (89, [some (.ref 0), some (.int a), some (.int x2), some (.int x3), some (.int x4), some (.int x5), some (.int x6), some (.int x7), some (.int v1)], [], σ2)) (q' := (48, [some (.ref 0), some (.int a), some (.int x2), some (.int x6), some (.int v1), some (.int x5), some (.int ((x6 - x2) &&& x2)), some (.int (x7 + 1)), some (.int v1)], [], σ2)) rfl ?_
        exact h
theorem hw_52 : pins.getD 52 [] = pi_52 := rfl
/-! MapDuty$Weights.weigh.(LMapDuty$Plan;I)V -/
set_option maxRecDepth 20000 in
theorem w_52 {a : Int32} {σ : St} {K : St → Prop} (h : PV 52 2 [some (.ref 34), some (.ref 11), some (.int a), some (.int 1), none, none] [] σ K) : CV 52 [.ref 34, .ref 11, .int a] σ K := by
  show PW none 52 0 [some (.ref 34), some (.ref 11), some (.int a), none, none, none] [] σ _
  refine PW.runs hw_52 rfl 2 (q := (0, [some (.ref 34), some (.ref 11), some (.int a), none, none, none], [], σ)) (q' := (2, [some (.ref 34), some (.ref 11), some (.int a), some (.int 1), none, none], [], σ)) rfl ?_
  exact h
set_option maxRecDepth 20000 in
theorem w_52_2 {a : Int32} {x3 : Int32} {o4 : Option Value} {o5 : Option Value} {σ : St} {K : St → Prop} (h : (if 64 ≤ x3 then K σ else CI 191 [.int x3] σ (fun v1 σ1 => ((0 ≤ (x3 &&& (x3 - 1)).toInt ∧ (x3 &&& (x3 - 1)).toInt < 64) ∧ CI 19 [.ref 11, .int a, .int v1] σ1 (fun v2 σ2 => ((0 ≤ x3.toInt ∧ x3.toInt < 64) ∧ CI 19 [.ref 11, .int a, .int (v1 + 6)] (s2 σ2 35 (Int32.toNatClampNeg x3) ((σ1 35 (Int32.toNatClampNeg (x3 &&& (x3 - 1)))) + v2)) (fun v3 σ3 => PV 52 2 [some (.ref 34), some (.ref 11), some (.int a), some (.int (x3 + 1)), some (.int v1), some (.int (x3 &&& (x3 - 1)))] [] (s2 σ3 36 (Int32.toNatClampNeg x3) ((σ2 36 (Int32.toNatClampNeg (x3 &&& (x3 - 1)))) + v3)) K))))))) : PV 52 2 [some (.ref 34), some (.ref 11), some (.int a), some (.int x3), o4, o5] [] σ K := by
  show PW none 52 2 [some (.ref 34), some (.ref 11), some (.int a), some (.int x3), o4, o5] [] σ _
  refine PW.runs hw_52 rfl 2 (q := (2, [some (.ref 34), some (.ref 11), some (.int a), some (.int x3), o4, o5], [], σ)) (q' := (5, [some (.ref 34), some (.ref 11), some (.int a), some (.int x3), o4, o5], [.int 64, .int x3], σ)) rfl ?_
  refine PW.icm (t := 72) (ins_l hw_52 rfl) rfl (fun hc1 => ?_) (fun hc1 => ?_)
  · replace h := (if_pos (c_geT hc1)).mp h
    exact PW.vret (ins_l hw_52 rfl) rfl ⟨rfl, h⟩
  · replace h := (if_neg (c_geF hc1)).mp h
    refine PW.runs hw_52 rfl 1 (q := (8, [some (.ref 34), some (.ref 11), some (.int a), some (.int x3), o4, o5], [], σ)) (q' := (9, [some (.ref 34), some (.ref 11), some (.int a), some (.int x3), o4, o5], [.int x3], σ)) rfl ?_
    refine PW.callS (vs := [.int x3]) (rest := []) (ins_l hw_52 rfl) rfl (Or.inl rfl) rfl (Nat.le_of_ble_eq_true rfl) (Nat.le_of_ble_eq_true rfl) (PW.mono h ?_)
    rintro _ σ1 ⟨v1, rfl, h⟩
    show PW none 52 12 [some (.ref 34), some (.ref 11), some (.int a), some (.int x3), o4, o5] [.int v1] σ1 _
    refine PW.runs hw_52 rfl 13 (q := (12, [some (.ref 34), some (.ref 11), some (.int a), some (.int x3), o4, o5], [.int v1], σ1)) (q' := (32, [some (.ref 34), some (.ref 11), some (.int a), some (.int x3), some (.int v1), some (.int (x3 &&& (x3 - 1)))], [.int (x3 &&& (x3 - 1)), .ref 35, .int x3, .ref 35], σ1)) rfl ?_
    obtain ⟨hb1, h⟩ := h
    refine PW.iald (n := 64) (ins_l hw_52 rfl) rfl (idx_in hb1.1 hb1.2).1 ?_
    refine PW.runs hw_52 rfl 3 (q := (33, [some (.ref 34), some (.ref 11), some (.int a), some (.int x3), some (.int v1), some (.int (x3 &&& (x3 - 1)))], [.int (σ1 35 (Int32.toNatClampNeg (x3 &&& (x3 - 1)))), .int x3, .ref 35], σ1)) (q' := (37, [some (.ref 34), some (.ref 11), some (.int a), some (.int x3), some (.int v1), some (.int (x3 &&& (x3 - 1)))], [.int v1, .int a, .ref 11, .int (σ1 35 (Int32.toNatClampNeg (x3 &&& (x3 - 1)))), .int x3, .ref 35], σ1)) rfl ?_
    refine PW.callV (b := 11) (vs := [.int a, .int v1]) (rest := [.int (σ1 35 (Int32.toNatClampNeg (x3 &&& (x3 - 1)))), .int x3, .ref 35]) (ins_l hw_52 rfl) rfl rfl rfl (Nat.le_of_ble_eq_true rfl) (Nat.le_of_ble_eq_true rfl) (PW.mono h ?_)
    rintro _ σ2 ⟨v2, rfl, h⟩
    show PW none 52 40 [some (.ref 34), some (.ref 11), some (.int a), some (.int x3), some (.int v1), some (.int (x3 &&& (x3 - 1)))] [.int v2, .int (σ1 35 (Int32.toNatClampNeg (x3 &&& (x3 - 1)))), .int x3, .ref 35] σ2 _
    refine PW.runs hw_52 rfl 1 (q := (40, [some (.ref 34), some (.ref 11), some (.int a), some (.int x3), some (.int v1), some (.int (x3 &&& (x3 - 1)))], [.int v2, .int (σ1 35 (Int32.toNatClampNeg (x3 &&& (x3 - 1)))), .int x3, .ref 35], σ2)) (q' := (41, [some (.ref 34), some (.ref 11), some (.int a), some (.int x3), some (.int v1), some (.int (x3 &&& (x3 - 1)))], [.int ((σ1 35 (Int32.toNatClampNeg (x3 &&& (x3 - 1)))) + v2), .int x3, .ref 35], σ2)) rfl ?_
    obtain ⟨hb2, h⟩ := h
    refine PW.iast (n := 64) (ins_l hw_52 rfl) rfl (idx_in hb2.1 hb2.2).1 ?_
    refine PW.runs hw_52 rfl 6 (q := (42, [some (.ref 34), some (.ref 11), some (.int a), some (.int x3), some (.int v1), some (.int (x3 &&& (x3 - 1)))], [], (s2 σ2 35 (Int32.toNatClampNeg x3) ((σ1 35 (Int32.toNatClampNeg (x3 &&& (x3 - 1)))) + v2)))) (q' := (53, [some (.ref 34), some (.ref 11), some (.int a), some (.int x3), some (.int v1), some (.int (x3 &&& (x3 - 1)))], [.int (x3 &&& (x3 - 1)), .ref 36, .int x3, .ref 36], (s2 σ2 35 (Int32.toNatClampNeg x3) ((σ1 35 (Int32.toNatClampNeg (x3 &&& (x3 - 1)))) + v2)))) rfl ?_
    refine PW.iald (n := 64) (ins_l hw_52 rfl) rfl (idx_in hb1.1 hb1.2).1 ?_
    refine PW.runs hw_52 rfl 5 (q := (54, [some (.ref 34), some (.ref 11), some (.int a), some (.int x3), some (.int v1), some (.int (x3 &&& (x3 - 1)))], [.int (σ2 36 (Int32.toNatClampNeg (x3 &&& (x3 - 1)))), .int x3, .ref 36], (s2 σ2 35 (Int32.toNatClampNeg x3) ((σ1 35 (Int32.toNatClampNeg (x3 &&& (x3 - 1)))) + v2)))) (q' := (61, [some (.ref 34), some (.ref 11), some (.int a), some (.int x3), some (.int v1), some (.int (x3 &&& (x3 - 1)))], [.int (v1 + 6), .int a, .ref 11, .int (σ2 36 (Int32.toNatClampNeg (x3 &&& (x3 - 1)))), .int x3, .ref 36], (s2 σ2 35 (Int32.toNatClampNeg x3) ((σ1 35 (Int32.toNatClampNeg (x3 &&& (x3 - 1)))) + v2)))) rfl ?_
    refine PW.callV (b := 11) (vs := [.int a, .int (v1 + 6)]) (rest := [.int (σ2 36 (Int32.toNatClampNeg (x3 &&& (x3 - 1)))), .int x3, .ref 36]) (ins_l hw_52 rfl) rfl rfl rfl (Nat.le_of_ble_eq_true rfl) (Nat.le_of_ble_eq_true rfl) (PW.mono h ?_)
    rintro _ σ3 ⟨v3, rfl, h⟩
    show PW none 52 64 [some (.ref 34), some (.ref 11), some (.int a), some (.int x3), some (.int v1), some (.int (x3 &&& (x3 - 1)))] [.int v3, .int (σ2 36 (Int32.toNatClampNeg (x3 &&& (x3 - 1)))), .int x3, .ref 36] σ3 _
    refine PW.runs hw_52 rfl 1 (q := (64, [some (.ref 34), some (.ref 11), some (.int a), some (.int x3), some (.int v1), some (.int (x3 &&& (x3 - 1)))], [.int v3, .int (σ2 36 (Int32.toNatClampNeg (x3 &&& (x3 - 1)))), .int x3, .ref 36], σ3)) (q' := (65, [some (.ref 34), some (.ref 11), some (.int a), some (.int x3), some (.int v1), some (.int (x3 &&& (x3 - 1)))], [.int ((σ2 36 (Int32.toNatClampNeg (x3 &&& (x3 - 1)))) + v3), .int x3, .ref 36], σ3)) rfl ?_
    refine PW.iast (n := 64) (ins_l hw_52 rfl) rfl (idx_in hb2.1 hb2.2).1 ?_
    refine PW.runs hw_52 rfl 2 (q := (66, [some (.ref 34), some (.ref 11), some (.int a), some (.int x3), some (.int v1), some (.int (x3 &&& (x3 - 1)))], [], (s2 σ3 36 (Int32.toNatClampNeg x3) ((σ2 36 (Int32.toNatClampNeg (x3 &&& (x3 - 1)))) + v3)))) (q' := (2, [some (.ref 34), some (.ref 11), some (.int a), some (.int (x3 + 1)), some (.int v1), some (.int (x3 &&& (x3 - 1)))], [], (s2 σ3 36 (Int32.toNatClampNeg x3) ((σ2 36 (Int32.toNatClampNeg (x3 &&& (x3 - 1)))) + v3)))) rfl ?_
    exact h
theorem hw_53 : pins.getD 53 [] = pi_53 := rfl
/-! MapDuty$Weights.of.(I)I -/
set_option maxRecDepth 20000 in
theorem w_53 {a : Int32} {σ : St} {K : Int32 → St → Prop} (h : ((0 ≤ (a &&& 63).toInt ∧ (a &&& 63).toInt < 64) ∧ ((0 ≤ ((a >>> (6 &&& 31)) &&& 63).toInt ∧ ((a >>> (6 &&& 31)) &&& 63).toInt < 64) ∧ K ((σ 35 (Int32.toNatClampNeg (a &&& 63))) + (σ 36 (Int32.toNatClampNeg ((a >>> (6 &&& 31)) &&& 63)))) σ))) : CI 53 [.ref 34, .int a] σ K := by
  show PW none 53 0 [some (.ref 34), some (.int a)] [] σ _
  refine PW.runs hw_53 rfl 5 (q := (0, [some (.ref 34), some (.int a)], [], σ)) (q' := (8, [some (.ref 34), some (.int a)], [.int (a &&& 63), .ref 35], σ)) rfl ?_
  obtain ⟨hb1, h⟩ := h
  refine PW.iald (n := 64) (ins_l hw_53 rfl) rfl (idx_in hb1.1 hb1.2).1 ?_
  refine PW.runs hw_53 rfl 7 (q := (9, [some (.ref 34), some (.int a)], [.int (σ 35 (Int32.toNatClampNeg (a &&& 63)))], σ)) (q' := (20, [some (.ref 34), some (.int a)], [.int ((a >>> (6 &&& 31)) &&& 63), .ref 36, .int (σ 35 (Int32.toNatClampNeg (a &&& 63)))], σ)) rfl ?_
  obtain ⟨hb2, h⟩ := h
  refine PW.iald (n := 64) (ins_l hw_53 rfl) rfl (idx_in hb2.1 hb2.2).1 ?_
  refine PW.runs hw_53 rfl 1 (q := (21, [some (.ref 34), some (.int a)], [.int (σ 36 (Int32.toNatClampNeg ((a >>> (6 &&& 31)) &&& 63))), .int (σ 35 (Int32.toNatClampNeg (a &&& 63)))], σ)) (q' := (22, [some (.ref 34), some (.int a)], [.int ((σ 35 (Int32.toNatClampNeg (a &&& 63))) + (σ 36 (Int32.toNatClampNeg ((a >>> (6 &&& 31)) &&& 63))))], σ)) rfl ?_
  exact PW.iret (ins_l hw_53 rfl) (Or.inl rfl) ⟨_, rfl, h⟩
theorem hw_191 : pins.getD 191 [] = pi_191 := rfl
/-! java/lang/Integer.numberOfTrailingZeros.(I)I -/
set_option maxRecDepth 20000 in
theorem w_191 {a : Int32} {σ : St} {K : Int32 → St → Prop} (h : (if 0 < ((a ^^^ (-1)) &&& (a - 1)) then (if ((a ^^^ (-1)) &&& (a - 1)) ≤ 65536 then (if ((a ^^^ (-1)) &&& (a - 1)) ≤ 256 then (if ((a ^^^ (-1)) &&& (a - 1)) ≤ 16 then (if ((a ^^^ (-1)) &&& (a - 1)) ≤ 4 then K (1 + (ush ((a ^^^ (-1)) &&& (a - 1)) 1)) σ else K ((1 + 2) + (ush (ush ((a ^^^ (-1)) &&& (a - 1)) 2) 1)) σ) else (if (ush ((a ^^^ (-1)) &&& (a - 1)) 4) ≤ 4 then K ((1 + 4) + (ush (ush ((a ^^^ (-1)) &&& (a - 1)) 4) 1)) σ else K (((1 + 4) + 2) + (ush (ush (ush ((a ^^^ (-1)) &&& (a - 1)) 4) 2) 1)) σ)) else (if (ush ((a ^^^ (-1)) &&& (a - 1)) 8) ≤ 16 then (if (ush ((a ^^^ (-1)) &&& (a - 1)) 8) ≤ 4 then K ((1 + 8) + (ush (ush ((a ^^^ (-1)) &&& (a - 1)) 8) 1)) σ else K (((1 + 8) + 2) + (ush (ush (ush ((a ^^^ (-1)) &&& (a - 1)) 8) 2) 1)) σ) else (if (ush (ush ((a ^^^ (-1)) &&& (a - 1)) 8) 4) ≤ 4 then K (((1 + 8) + 4) + (ush (ush (ush ((a ^^^ (-1)) &&& (a - 1)) 8) 4) 1)) σ else K ((((1 + 8) + 4) + 2) + (ush (ush (ush (ush ((a ^^^ (-1)) &&& (a - 1)) 8) 4) 2) 1)) σ))) else (if (ush ((a ^^^ (-1)) &&& (a - 1)) 16) ≤ 256 then (if (ush ((a ^^^ (-1)) &&& (a - 1)) 16) ≤ 16 then (if (ush ((a ^^^ (-1)) &&& (a - 1)) 16) ≤ 4 then K ((1 + 16) + (ush (ush ((a ^^^ (-1)) &&& (a - 1)) 16) 1)) σ else K (((1 + 16) + 2) + (ush (ush (ush ((a ^^^ (-1)) &&& (a - 1)) 16) 2) 1)) σ) else (if (ush (ush ((a ^^^ (-1)) &&& (a - 1)) 16) 4) ≤ 4 then K (((1 + 16) + 4) + (ush (ush (ush ((a ^^^ (-1)) &&& (a - 1)) 16) 4) 1)) σ else K ((((1 + 16) + 4) + 2) + (ush (ush (ush (ush ((a ^^^ (-1)) &&& (a - 1)) 16) 4) 2) 1)) σ)) else (if (ush (ush ((a ^^^ (-1)) &&& (a - 1)) 16) 8) ≤ 16 then (if (ush (ush ((a ^^^ (-1)) &&& (a - 1)) 16) 8) ≤ 4 then K (((1 + 16) + 8) + (ush (ush (ush ((a ^^^ (-1)) &&& (a - 1)) 16) 8) 1)) σ else K ((((1 + 16) + 8) + 2) + (ush (ush (ush (ush ((a ^^^ (-1)) &&& (a - 1)) 16) 8) 2) 1)) σ) else (if (ush (ush (ush ((a ^^^ (-1)) &&& (a - 1)) 16) 8) 4) ≤ 4 then K ((((1 + 16) + 8) + 4) + (ush (ush (ush (ush ((a ^^^ (-1)) &&& (a - 1)) 16) 8) 4) 1)) σ else K (((((1 + 16) + 8) + 4) + 2) + (ush (ush (ush (ush (ush ((a ^^^ (-1)) &&& (a - 1)) 16) 8) 4) 2) 1)) σ)))) else K (((a ^^^ (-1)) &&& (a - 1)) &&& 32) σ)) : CI 191 [.int a] σ K := by
  show PW none 191 0 [some (.int a), none] [] σ _
  refine PW.runs hw_191 rfl 9 (q := (0, [some (.int a), none], [], σ)) (q' := (9, [some (.int ((a ^^^ (-1)) &&& (a - 1))), none], [.int ((a ^^^ (-1)) &&& (a - 1))], σ)) rfl ?_
  refine PW.ifc (t := 17) (ins_l hw_191 rfl) rfl (fun hc1 => ?_) (fun hc1 => ?_)
  · replace h := (if_pos (c_gtT hc1)).mp h
    refine PW.runs hw_191 rfl 4 (q := (17, [some (.int ((a ^^^ (-1)) &&& (a - 1))), none], [], σ)) (q' := (23, [some (.int ((a ^^^ (-1)) &&& (a - 1))), some (.int 1)], [.int 65536, .int ((a ^^^ (-1)) &&& (a - 1))], σ)) rfl ?_
    refine PW.icm (t := 34) (ins_l hw_191 rfl) rfl (fun hc2 => ?_) (fun hc2 => ?_)
    · replace h := (if_pos (c_leT hc2)).mp h
      refine PW.runs hw_191 rfl 2 (q := (34, [some (.int ((a ^^^ (-1)) &&& (a - 1))), some (.int 1)], [], σ)) (q' := (38, [some (.int ((a ^^^ (-1)) &&& (a - 1))), some (.int 1)], [.int 256, .int ((a ^^^ (-1)) &&& (a - 1))], σ)) rfl ?_
      refine PW.icm (t := 49) (ins_l hw_191 rfl) rfl (fun hc3 => ?_) (fun hc3 => ?_)
      · replace h := (if_pos (c_leT hc3)).mp h
        refine PW.runs hw_191 rfl 2 (q := (49, [some (.int ((a ^^^ (-1)) &&& (a - 1))), some (.int 1)], [], σ)) (q' := (52, [some (.int ((a ^^^ (-1)) &&& (a - 1))), some (.int 1)], [.int 16, .int ((a ^^^ (-1)) &&& (a - 1))], σ)) rfl ?_
        refine PW.icm (t := 62) (ins_l hw_191 rfl) rfl (fun hc4 => ?_) (fun hc4 => ?_)
        · replace h := (if_pos (c_leT hc4)).mp h
          refine PW.runs hw_191 rfl 2 (q := (62, [some (.int ((a ^^^ (-1)) &&& (a - 1))), some (.int 1)], [], σ)) (q' := (64, [some (.int ((a ^^^ (-1)) &&& (a - 1))), some (.int 1)], [.int 4, .int ((a ^^^ (-1)) &&& (a - 1))], σ)) rfl ?_
          refine PW.icm (t := 74) (ins_l hw_191 rfl) rfl (fun hc5 => ?_) (fun hc5 => ?_)
          · replace h := (if_pos (c_leT hc5)).mp h
            refine PW.runs hw_191 rfl 5 (q := (74, [some (.int ((a ^^^ (-1)) &&& (a - 1))), some (.int 1)], [], σ)) (q' := (79, [some (.int ((a ^^^ (-1)) &&& (a - 1))), some (.int 1)], [.int (1 + (ush ((a ^^^ (-1)) &&& (a - 1)) 1))], σ)) rfl ?_
            exact PW.iret (ins_l hw_191 rfl) (Or.inl rfl) ⟨_, rfl, h⟩
          · replace h := (if_neg (c_leF hc5)).mp h
            refine PW.runs hw_191 rfl 10 (q := (67, [some (.int ((a ^^^ (-1)) &&& (a - 1))), some (.int 1)], [], σ)) (q' := (79, [some (.int (ush ((a ^^^ (-1)) &&& (a - 1)) 2)), some (.int (1 + 2))], [.int ((1 + 2) + (ush (ush ((a ^^^ (-1)) &&& (a - 1)) 2) 1))], σ)) rfl ?_
            exact PW.iret (ins_l hw_191 rfl) (Or.inl rfl) ⟨_, rfl, h⟩
        · replace h := (if_neg (c_leF hc4)).mp h
          refine PW.runs hw_191 rfl 7 (q := (55, [some (.int ((a ^^^ (-1)) &&& (a - 1))), some (.int 1)], [], σ)) (q' := (64, [some (.int (ush ((a ^^^ (-1)) &&& (a - 1)) 4)), some (.int (1 + 4))], [.int 4, .int (ush ((a ^^^ (-1)) &&& (a - 1)) 4)], σ)) rfl ?_
          refine PW.icm (t := 74) (ins_l hw_191 rfl) rfl (fun hc5 => ?_) (fun hc5 => ?_)
          · replace h := (if_pos (c_leT hc5)).mp h
            refine PW.runs hw_191 rfl 5 (q := (74, [some (.int (ush ((a ^^^ (-1)) &&& (a - 1)) 4)), some (.int (1 + 4))], [], σ)) (q' := (79, [some (.int (ush ((a ^^^ (-1)) &&& (a - 1)) 4)), some (.int (1 + 4))], [.int ((1 + 4) + (ush (ush ((a ^^^ (-1)) &&& (a - 1)) 4) 1))], σ)) rfl ?_
            exact PW.iret (ins_l hw_191 rfl) (Or.inl rfl) ⟨_, rfl, h⟩
          · replace h := (if_neg (c_leF hc5)).mp h
            refine PW.runs hw_191 rfl 10 (q := (67, [some (.int (ush ((a ^^^ (-1)) &&& (a - 1)) 4)), some (.int (1 + 4))], [], σ)) (q' := (79, [some (.int (ush (ush ((a ^^^ (-1)) &&& (a - 1)) 4) 2)), some (.int ((1 + 4) + 2))], [.int (((1 + 4) + 2) + (ush (ush (ush ((a ^^^ (-1)) &&& (a - 1)) 4) 2) 1))], σ)) rfl ?_
            exact PW.iret (ins_l hw_191 rfl) (Or.inl rfl) ⟨_, rfl, h⟩
      · replace h := (if_neg (c_leF hc3)).mp h
        refine PW.runs hw_191 rfl 7 (q := (41, [some (.int ((a ^^^ (-1)) &&& (a - 1))), some (.int 1)], [], σ)) (q' := (52, [some (.int (ush ((a ^^^ (-1)) &&& (a - 1)) 8)), some (.int (1 + 8))], [.int 16, .int (ush ((a ^^^ (-1)) &&& (a - 1)) 8)], σ)) rfl ?_
        refine PW.icm (t := 62) (ins_l hw_191 rfl) rfl (fun hc4 => ?_) (fun hc4 => ?_)
        · replace h := (if_pos (c_leT hc4)).mp h
          refine PW.runs hw_191 rfl 2 (q := (62, [some (.int (ush ((a ^^^ (-1)) &&& (a - 1)) 8)), some (.int (1 + 8))], [], σ)) (q' := (64, [some (.int (ush ((a ^^^ (-1)) &&& (a - 1)) 8)), some (.int (1 + 8))], [.int 4, .int (ush ((a ^^^ (-1)) &&& (a - 1)) 8)], σ)) rfl ?_
          refine PW.icm (t := 74) (ins_l hw_191 rfl) rfl (fun hc5 => ?_) (fun hc5 => ?_)
          · replace h := (if_pos (c_leT hc5)).mp h
            refine PW.runs hw_191 rfl 5 (q := (74, [some (.int (ush ((a ^^^ (-1)) &&& (a - 1)) 8)), some (.int (1 + 8))], [], σ)) (q' := (79, [some (.int (ush ((a ^^^ (-1)) &&& (a - 1)) 8)), some (.int (1 + 8))], [.int ((1 + 8) + (ush (ush ((a ^^^ (-1)) &&& (a - 1)) 8) 1))], σ)) rfl ?_
            exact PW.iret (ins_l hw_191 rfl) (Or.inl rfl) ⟨_, rfl, h⟩
          · replace h := (if_neg (c_leF hc5)).mp h
            refine PW.runs hw_191 rfl 10 (q := (67, [some (.int (ush ((a ^^^ (-1)) &&& (a - 1)) 8)), some (.int (1 + 8))], [], σ)) (q' := (79, [some (.int (ush (ush ((a ^^^ (-1)) &&& (a - 1)) 8) 2)), some (.int ((1 + 8) + 2))], [.int (((1 + 8) + 2) + (ush (ush (ush ((a ^^^ (-1)) &&& (a - 1)) 8) 2) 1))], σ)) rfl ?_
            exact PW.iret (ins_l hw_191 rfl) (Or.inl rfl) ⟨_, rfl, h⟩
        · replace h := (if_neg (c_leF hc4)).mp h
          refine PW.runs hw_191 rfl 7 (q := (55, [some (.int (ush ((a ^^^ (-1)) &&& (a - 1)) 8)), some (.int (1 + 8))], [], σ)) (q' := (64, [some (.int (ush (ush ((a ^^^ (-1)) &&& (a - 1)) 8) 4)), some (.int ((1 + 8) + 4))], [.int 4, .int (ush (ush ((a ^^^ (-1)) &&& (a - 1)) 8) 4)], σ)) rfl ?_
          refine PW.icm (t := 74) (ins_l hw_191 rfl) rfl (fun hc5 => ?_) (fun hc5 => ?_)
          · replace h := (if_pos (c_leT hc5)).mp h
            refine PW.runs hw_191 rfl 5 (q := (74, [some (.int (ush (ush ((a ^^^ (-1)) &&& (a - 1)) 8) 4)), some (.int ((1 + 8) + 4))], [], σ)) (q' := (79, [some (.int (ush (ush ((a ^^^ (-1)) &&& (a - 1)) 8) 4)), some (.int ((1 + 8) + 4))], [.int (((1 + 8) + 4) + (ush (ush (ush ((a ^^^ (-1)) &&& (a - 1)) 8) 4) 1))], σ)) rfl ?_
            exact PW.iret (ins_l hw_191 rfl) (Or.inl rfl) ⟨_, rfl, h⟩
          · replace h := (if_neg (c_leF hc5)).mp h
            refine PW.runs hw_191 rfl 10 (q := (67, [some (.int (ush (ush ((a ^^^ (-1)) &&& (a - 1)) 8) 4)), some (.int ((1 + 8) + 4))], [], σ)) (q' := (79, [some (.int (ush (ush (ush ((a ^^^ (-1)) &&& (a - 1)) 8) 4) 2)), some (.int (((1 + 8) + 4) + 2))], [.int ((((1 + 8) + 4) + 2) + (ush (ush (ush (ush ((a ^^^ (-1)) &&& (a - 1)) 8) 4) 2) 1))], σ)) rfl ?_
            exact PW.iret (ins_l hw_191 rfl) (Or.inl rfl) ⟨_, rfl, h⟩
    · replace h := (if_neg (c_leF hc2)).mp h
      refine PW.runs hw_191 rfl 7 (q := (26, [some (.int ((a ^^^ (-1)) &&& (a - 1))), some (.int 1)], [], σ)) (q' := (38, [some (.int (ush ((a ^^^ (-1)) &&& (a - 1)) 16)), some (.int (1 + 16))], [.int 256, .int (ush ((a ^^^ (-1)) &&& (a - 1)) 16)], σ)) rfl ?_
      refine PW.icm (t := 49) (ins_l hw_191 rfl) rfl (fun hc3 => ?_) (fun hc3 => ?_)
      · replace h := (if_pos (c_leT hc3)).mp h
        refine PW.runs hw_191 rfl 2 (q := (49, [some (.int (ush ((a ^^^ (-1)) &&& (a - 1)) 16)), some (.int (1 + 16))], [], σ)) (q' := (52, [some (.int (ush ((a ^^^ (-1)) &&& (a - 1)) 16)), some (.int (1 + 16))], [.int 16, .int (ush ((a ^^^ (-1)) &&& (a - 1)) 16)], σ)) rfl ?_
        refine PW.icm (t := 62) (ins_l hw_191 rfl) rfl (fun hc4 => ?_) (fun hc4 => ?_)
        · replace h := (if_pos (c_leT hc4)).mp h
          refine PW.runs hw_191 rfl 2 (q := (62, [some (.int (ush ((a ^^^ (-1)) &&& (a - 1)) 16)), some (.int (1 + 16))], [], σ)) (q' := (64, [some (.int (ush ((a ^^^ (-1)) &&& (a - 1)) 16)), some (.int (1 + 16))], [.int 4, .int (ush ((a ^^^ (-1)) &&& (a - 1)) 16)], σ)) rfl ?_
          refine PW.icm (t := 74) (ins_l hw_191 rfl) rfl (fun hc5 => ?_) (fun hc5 => ?_)
          · replace h := (if_pos (c_leT hc5)).mp h
            refine PW.runs hw_191 rfl 5 (q := (74, [some (.int (ush ((a ^^^ (-1)) &&& (a - 1)) 16)), some (.int (1 + 16))], [], σ)) (q' := (79, [some (.int (ush ((a ^^^ (-1)) &&& (a - 1)) 16)), some (.int (1 + 16))], [.int ((1 + 16) + (ush (ush ((a ^^^ (-1)) &&& (a - 1)) 16) 1))], σ)) rfl ?_
            exact PW.iret (ins_l hw_191 rfl) (Or.inl rfl) ⟨_, rfl, h⟩
          · replace h := (if_neg (c_leF hc5)).mp h
            refine PW.runs hw_191 rfl 10 (q := (67, [some (.int (ush ((a ^^^ (-1)) &&& (a - 1)) 16)), some (.int (1 + 16))], [], σ)) (q' := (79, [some (.int (ush (ush ((a ^^^ (-1)) &&& (a - 1)) 16) 2)), some (.int ((1 + 16) + 2))], [.int (((1 + 16) + 2) + (ush (ush (ush ((a ^^^ (-1)) &&& (a - 1)) 16) 2) 1))], σ)) rfl ?_
            exact PW.iret (ins_l hw_191 rfl) (Or.inl rfl) ⟨_, rfl, h⟩
        · replace h := (if_neg (c_leF hc4)).mp h
          refine PW.runs hw_191 rfl 7 (q := (55, [some (.int (ush ((a ^^^ (-1)) &&& (a - 1)) 16)), some (.int (1 + 16))], [], σ)) (q' := (64, [some (.int (ush (ush ((a ^^^ (-1)) &&& (a - 1)) 16) 4)), some (.int ((1 + 16) + 4))], [.int 4, .int (ush (ush ((a ^^^ (-1)) &&& (a - 1)) 16) 4)], σ)) rfl ?_
          refine PW.icm (t := 74) (ins_l hw_191 rfl) rfl (fun hc5 => ?_) (fun hc5 => ?_)
          · replace h := (if_pos (c_leT hc5)).mp h
            refine PW.runs hw_191 rfl 5 (q := (74, [some (.int (ush (ush ((a ^^^ (-1)) &&& (a - 1)) 16) 4)), some (.int ((1 + 16) + 4))], [], σ)) (q' := (79, [some (.int (ush (ush ((a ^^^ (-1)) &&& (a - 1)) 16) 4)), some (.int ((1 + 16) + 4))], [.int (((1 + 16) + 4) + (ush (ush (ush ((a ^^^ (-1)) &&& (a - 1)) 16) 4) 1))], σ)) rfl ?_
            exact PW.iret (ins_l hw_191 rfl) (Or.inl rfl) ⟨_, rfl, h⟩
          · replace h := (if_neg (c_leF hc5)).mp h
            refine PW.runs hw_191 rfl 10 (q := (67, [some (.int (ush (ush ((a ^^^ (-1)) &&& (a - 1)) 16) 4)), some (.int ((1 + 16) + 4))], [], σ)) (q' := (79, [some (.int (ush (ush (ush ((a ^^^ (-1)) &&& (a - 1)) 16) 4) 2)), some (.int (((1 + 16) + 4) + 2))], [.int ((((1 + 16) + 4) + 2) + (ush (ush (ush (ush ((a ^^^ (-1)) &&& (a - 1)) 16) 4) 2) 1))], σ)) rfl ?_
            exact PW.iret (ins_l hw_191 rfl) (Or.inl rfl) ⟨_, rfl, h⟩
      · replace h := (if_neg (c_leF hc3)).mp h
        refine PW.runs hw_191 rfl 7 (q := (41, [some (.int (ush ((a ^^^ (-1)) &&& (a - 1)) 16)), some (.int (1 + 16))], [], σ)) (q' := (52, [some (.int (ush (ush ((a ^^^ (-1)) &&& (a - 1)) 16) 8)), some (.int ((1 + 16) + 8))], [.int 16, .int (ush (ush ((a ^^^ (-1)) &&& (a - 1)) 16) 8)], σ)) rfl ?_
        refine PW.icm (t := 62) (ins_l hw_191 rfl) rfl (fun hc4 => ?_) (fun hc4 => ?_)
        · replace h := (if_pos (c_leT hc4)).mp h
          refine PW.runs hw_191 rfl 2 (q := (62, [some (.int (ush (ush ((a ^^^ (-1)) &&& (a - 1)) 16) 8)), some (.int ((1 + 16) + 8))], [], σ)) (q' := (64, [some (.int (ush (ush ((a ^^^ (-1)) &&& (a - 1)) 16) 8)), some (.int ((1 + 16) + 8))], [.int 4, .int (ush (ush ((a ^^^ (-1)) &&& (a - 1)) 16) 8)], σ)) rfl ?_
          refine PW.icm (t := 74) (ins_l hw_191 rfl) rfl (fun hc5 => ?_) (fun hc5 => ?_)
          · replace h := (if_pos (c_leT hc5)).mp h
            refine PW.runs hw_191 rfl 5 (q := (74, [some (.int (ush (ush ((a ^^^ (-1)) &&& (a - 1)) 16) 8)), some (.int ((1 + 16) + 8))], [], σ)) (q' := (79, [some (.int (ush (ush ((a ^^^ (-1)) &&& (a - 1)) 16) 8)), some (.int ((1 + 16) + 8))], [.int (((1 + 16) + 8) + (ush (ush (ush ((a ^^^ (-1)) &&& (a - 1)) 16) 8) 1))], σ)) rfl ?_
            exact PW.iret (ins_l hw_191 rfl) (Or.inl rfl) ⟨_, rfl, h⟩
          · replace h := (if_neg (c_leF hc5)).mp h
            refine PW.runs hw_191 rfl 10 (q := (67, [some (.int (ush (ush ((a ^^^ (-1)) &&& (a - 1)) 16) 8)), some (.int ((1 + 16) + 8))], [], σ)) (q' := (79, [some (.int (ush (ush (ush ((a ^^^ (-1)) &&& (a - 1)) 16) 8) 2)), some (.int (((1 + 16) + 8) + 2))], [.int ((((1 + 16) + 8) + 2) + (ush (ush (ush (ush ((a ^^^ (-1)) &&& (a - 1)) 16) 8) 2) 1))], σ)) rfl ?_
            exact PW.iret (ins_l hw_191 rfl) (Or.inl rfl) ⟨_, rfl, h⟩
        · replace h := (if_neg (c_leF hc4)).mp h
          refine PW.runs hw_191 rfl 7 (q := (55, [some (.int (ush (ush ((a ^^^ (-1)) &&& (a - 1)) 16) 8)), some (.int ((1 + 16) + 8))], [], σ)) (q' := (64, [some (.int (ush (ush (ush ((a ^^^ (-1)) &&& (a - 1)) 16) 8) 4)), some (.int (((1 + 16) + 8) + 4))], [.int 4, .int (ush (ush (ush ((a ^^^ (-1)) &&& (a - 1)) 16) 8) 4)], σ)) rfl ?_
          refine PW.icm (t := 74) (ins_l hw_191 rfl) rfl (fun hc5 => ?_) (fun hc5 => ?_)
          · replace h := (if_pos (c_leT hc5)).mp h
            refine PW.runs hw_191 rfl 5 (q := (74, [some (.int (ush (ush (ush ((a ^^^ (-1)) &&& (a - 1)) 16) 8) 4)), some (.int (((1 + 16) + 8) + 4))], [], σ)) (q' := (79, [some (.int (ush (ush (ush ((a ^^^ (-1)) &&& (a - 1)) 16) 8) 4)), some (.int (((1 + 16) + 8) + 4))], [.int ((((1 + 16) + 8) + 4) + (ush (ush (ush (ush ((a ^^^ (-1)) &&& (a - 1)) 16) 8) 4) 1))], σ)) rfl ?_
            exact PW.iret (ins_l hw_191 rfl) (Or.inl rfl) ⟨_, rfl, h⟩
          · replace h := (if_neg (c_leF hc5)).mp h
            refine PW.runs hw_191 rfl 10 (q := (67, [some (.int (ush (ush (ush ((a ^^^ (-1)) &&& (a - 1)) 16) 8) 4)), some (.int (((1 + 16) + 8) + 4))], [], σ)) (q' := (79, [some (.int (ush (ush (ush (ush ((a ^^^ (-1)) &&& (a - 1)) 16) 8) 4) 2)), some (.int ((((1 + 16) + 8) + 4) + 2))], [.int (((((1 + 16) + 8) + 4) + 2) + (ush (ush (ush (ush (ush ((a ^^^ (-1)) &&& (a - 1)) 16) 8) 4) 2) 1))], σ)) rfl ?_
            exact PW.iret (ins_l hw_191 rfl) (Or.inl rfl) ⟨_, rfl, h⟩
  · replace h := (if_neg (c_gtF hc1)).mp h
    refine PW.runs hw_191 rfl 3 (q := (12, [some (.int ((a ^^^ (-1)) &&& (a - 1))), none], [], σ)) (q' := (16, [some (.int ((a ^^^ (-1)) &&& (a - 1))), none], [.int (((a ^^^ (-1)) &&& (a - 1)) &&& 32)], σ)) rfl ?_
    exact PW.iret (ins_l hw_191 rfl) (Or.inl rfl) ⟨_, rfl, h⟩
theorem hw_71 : pins.getD 71 [] = pi_71 := rfl
/-! MapDuty.lands.(II)I -/
set_option maxRecDepth 20000 in
theorem w_71 {a : Int32} {b : Int32} {σ : St} {K : Int32 → St → Prop} (h : CI 91 [.int a, .int 0, .int 12] σ (fun v1 σ1 => (if v1 = 0 then K (-1000000002) σ1 else CI 91 [.int b, .int 0, .int 2] σ1 (fun v2 σ2 => (if v2 = 0 then K (-1000000002) σ2 else CV 5 [.ref 37, .ref 11, .ref 20, .int a] σ2 (fun σ3 => (if b = 0 then K (σ3 37 0) σ3 else (if (σ3 37 0) = 0 then K (-1) σ3 else (if b = 1 then K (σ3 37 1) σ3 else CI 8 [.ref 37, .int (σ3 11 1)] σ3 (fun v4 σ4 => K v4 σ4)))))))))) : CI 71 [.ref 0, .int a, .int b] σ K := by
  show PW none 71 0 [some (.ref 0), some (.int a), some (.int b)] [] σ _
  refine PW.runs hw_71 rfl 3 (q := (0, [some (.ref 0), some (.int a), some (.int b)], [], σ)) (q' := (4, [some (.ref 0), some (.int a), some (.int b)], [.int 12, .int 0, .int a], σ)) rfl ?_
  refine PW.callS (vs := [.int a, .int 0, .int 12]) (rest := []) (ins_l hw_71 rfl) rfl (Or.inl rfl) rfl (Nat.le_of_ble_eq_true rfl) (Nat.le_of_ble_eq_true rfl) (PW.mono h ?_)
  rintro _ σ1 ⟨v1, rfl, h⟩
  show PW none 71 7 [some (.ref 0), some (.int a), some (.int b)] [.int v1] σ1 _
  refine PW.ifc (t := 19) (ins_l hw_71 rfl) rfl (fun hc1 => ?_) (fun hc1 => ?_)
  · replace h := (if_pos (c_eqT hc1)).mp h
    refine PW.runs hw_71 rfl 1 (q := (19, [some (.ref 0), some (.int a), some (.int b)], [], σ1)) (q' := (21, [some (.ref 0), some (.int a), some (.int b)], [.int (-1000000002)], σ1)) rfl ?_
    exact PW.iret (ins_l hw_71 rfl) (Or.inl rfl) ⟨_, rfl, h⟩
  · replace h := (if_neg (c_eqF hc1)).mp h
    refine PW.runs hw_71 rfl 3 (q := (10, [some (.ref 0), some (.int a), some (.int b)], [], σ1)) (q' := (13, [some (.ref 0), some (.int a), some (.int b)], [.int 2, .int 0, .int b], σ1)) rfl ?_
    refine PW.callS (vs := [.int b, .int 0, .int 2]) (rest := []) (ins_l hw_71 rfl) rfl (Or.inl rfl) rfl (Nat.le_of_ble_eq_true rfl) (Nat.le_of_ble_eq_true rfl) (PW.mono h ?_)
    rintro _ σ2 ⟨v2, rfl, h⟩
    show PW none 71 16 [some (.ref 0), some (.int a), some (.int b)] [.int v2] σ2 _
    refine PW.ifc (t := 22) (ins_l hw_71 rfl) rfl (fun hc2 => ?_) (fun hc2 => ?_)
    · replace h := (if_neg (c_neT hc2)).mp h
      refine PW.runs hw_71 rfl 8 (q := (22, [some (.ref 0), some (.int a), some (.int b)], [], σ2)) (q' := (38, [some (.ref 0), some (.int a), some (.int b)], [.int a, .ref 20, .ref 11, .ref 37], σ2)) rfl ?_
      refine PW.callV (b := 37) (vs := [.ref 11, .ref 20, .int a]) (rest := []) (ins_l hw_71 rfl) rfl rfl rfl (Nat.le_of_ble_eq_true rfl) (Nat.le_of_ble_eq_true rfl) (PW.mono h ?_)
      rintro _ σ3 ⟨rfl, h⟩
      show PW none 71 41 [some (.ref 0), some (.int a), some (.int b)] [] σ3 _
      refine PW.runs hw_71 rfl 1 (q := (41, [some (.ref 0), some (.int a), some (.int b)], [], σ3)) (q' := (42, [some (.ref 0), some (.int a), some (.int b)], [.int b], σ3)) rfl ?_
      refine PW.ifc (t := 53) (ins_l hw_71 rfl) rfl (fun hc3 => ?_) (fun hc3 => ?_)
      · replace h := (if_neg (c_neT hc3)).mp h
        refine PW.runs hw_71 rfl 3 (q := (53, [some (.ref 0), some (.int a), some (.int b)], [], σ3)) (q' := (60, [some (.ref 0), some (.int a), some (.int b)], [.int (σ3 37 0)], σ3)) rfl ?_
        refine PW.ifc (t := 65) (ins_l hw_71 rfl) rfl (fun hc4 => ?_) (fun hc4 => ?_)
        · replace h := (if_neg (c_neT hc4)).mp h
          refine PW.runs hw_71 rfl 2 (q := (65, [some (.ref 0), some (.int a), some (.int b)], [], σ3)) (q' := (67, [some (.ref 0), some (.int a), some (.int b)], [.int 1, .int b], σ3)) rfl ?_
          refine PW.icm (t := 80) (ins_l hw_71 rfl) rfl (fun hc5 => ?_) (fun hc5 => ?_)
          · replace h := (if_neg (c_neT hc5)).mp h
            refine PW.runs hw_71 rfl 5 (q := (80, [some (.ref 0), some (.int a), some (.int b)], [], σ3)) (q' := (91, [some (.ref 0), some (.int a), some (.int b)], [.int (σ3 11 1), .ref 37], σ3)) rfl ?_
            refine PW.callV (b := 37) (vs := [.int (σ3 11 1)]) (rest := []) (ins_l hw_71 rfl) rfl rfl rfl (Nat.le_of_ble_eq_true rfl) (Nat.le_of_ble_eq_true rfl) (PW.mono h ?_)
            rintro _ σ4 ⟨v4, rfl, h⟩
            show PW none 71 94 [some (.ref 0), some (.int a), some (.int b)] [.int v4] σ4 _
            exact PW.iret (ins_l hw_71 rfl) (Or.inl rfl) ⟨_, rfl, h⟩
          · replace h := (if_pos (c_neF hc5)).mp h
            refine PW.runs hw_71 rfl 4 (q := (70, [some (.ref 0), some (.int a), some (.int b)], [], σ3)) (q' := (94, [some (.ref 0), some (.int a), some (.int b)], [.int (σ3 37 1)], σ3)) rfl ?_
            exact PW.iret (ins_l hw_71 rfl) (Or.inl rfl) ⟨_, rfl, h⟩
        · replace h := (if_pos (c_neF hc4)).mp h
          refine PW.runs hw_71 rfl 1 (q := (63, [some (.ref 0), some (.int a), some (.int b)], [], σ3)) (q' := (64, [some (.ref 0), some (.int a), some (.int b)], [.int (-1)], σ3)) rfl ?_
          exact PW.iret (ins_l hw_71 rfl) (Or.inl rfl) ⟨_, rfl, h⟩
      · replace h := (if_pos (c_neF hc3)).mp h
        refine PW.runs hw_71 rfl 3 (q := (45, [some (.ref 0), some (.int a), some (.int b)], [], σ3)) (q' := (52, [some (.ref 0), some (.int a), some (.int b)], [.int (σ3 37 0)], σ3)) rfl ?_
        exact PW.iret (ins_l hw_71 rfl) (Or.inl rfl) ⟨_, rfl, h⟩
    · replace h := (if_pos (c_neF hc2)).mp h
      refine PW.runs hw_71 rfl 1 (q := (19, [some (.ref 0), some (.int a), some (.int b)], [], σ2)) (q' := (21, [some (.ref 0), some (.int a), some (.int b)], [.int (-1000000002)], σ2)) rfl ?_
      exact PW.iret (ins_l hw_71 rfl) (Or.inl rfl) ⟨_, rfl, h⟩
theorem hw_5 : pins.getD 5 [] = pi_5 := rfl
/-! MapDuty$Lands.gather.(LMapDuty$Plan;[II)V -/
set_option maxRecDepth 20000 in
theorem w_5 {a : Int32} {σ : St} {K : St → Prop} (h : CI 94 [.int (σ 11 1)] (s2 σ 37 0 0) (fun v1 σ1 => CV 193 [.ref 38, .int 0] (s2 σ1 37 1 v1) (fun σ2 => PV 5 35 [some (.ref 37), some (.ref 11), some (.ref 20), some (.int a), some (.int (1 <<< ((σ2 11 1) &&& 31))), some (.int 0)] [] σ2 K))) : CV 5 [.ref 37, .ref 11, .ref 20, .int a] σ K := by
  show PW none 5 0 [some (.ref 37), some (.ref 11), some (.ref 20), some (.int a), none, none] [] σ _
  refine PW.runs hw_5 rfl 6 (q := (0, [some (.ref 37), some (.ref 11), some (.ref 20), some (.int a), none, none], [], σ)) (q' := (10, [some (.ref 37), some (.ref 11), some (.ref 20), some (.int a), none, none], [.int (σ 11 1), .ref 37], (s2 σ 37 0 0))) rfl ?_
  refine PW.callS (vs := [.int (σ 11 1)]) (rest := [.ref 37]) (ins_l hw_5 rfl) rfl (Or.inr rfl) rfl (Nat.le_of_ble_eq_true rfl) (Nat.le_of_ble_eq_true rfl) (PW.mono h ?_)
  rintro _ σ1 ⟨v1, rfl, h⟩
  show PW none 5 13 [some (.ref 37), some (.ref 11), some (.ref 20), some (.int a), none, none] [.int v1, .ref 37] σ1 _
  refine PW.runs hw_5 rfl 4 (q := (13, [some (.ref 37), some (.ref 11), some (.ref 20), some (.int a), none, none], [.int v1, .ref 37], σ1)) (q' := (21, [some (.ref 37), some (.ref 11), some (.ref 20), some (.int a), none, none], [.int 0, .ref 38], (s2 σ1 37 1 v1))) rfl ?_
  refine PW.callS (vs := [.ref 38, .int 0]) (rest := []) (ins_l hw_5 rfl) rfl (Or.inl rfl) rfl (Nat.le_of_ble_eq_true rfl) (Nat.le_of_ble_eq_true rfl) (PW.mono h ?_)
  rintro _ σ2 ⟨rfl, h⟩
  show PW none 5 24 [some (.ref 37), some (.ref 11), some (.ref 20), some (.int a), none, none] [] σ2 _
  refine PW.runs hw_5 rfl 7 (q := (24, [some (.ref 37), some (.ref 11), some (.ref 20), some (.int a), none, none], [], σ2)) (q' := (35, [some (.ref 37), some (.ref 11), some (.ref 20), some (.int a), some (.int (1 <<< ((σ2 11 1) &&& 31))), some (.int 0)], [], σ2)) rfl ?_
  exact h
set_option maxRecDepth 20000 in
theorem w_5_35 {a : Int32} {x4 : Int32} {x5 : Int32} {σ : St} {K : St → Prop} (h : (if x4 ≤ x5 then K σ else CI 6 [.int x5, .int (σ 11 2), .ref 20, .int a] σ (fun v1 σ1 => (if v1 = 0 then PV 5 35 [some (.ref 37), some (.ref 11), some (.ref 20), some (.int a), some (.int x4), some (.int (x5 + 1))] [] σ1 K else CV 7 [.ref 37, .int x5, .int (σ1 11 1)] σ1 (fun σ2 => PV 5 35 [some (.ref 37), some (.ref 11), some (.ref 20), some (.int a), some (.int x4), some (.int (x5 + 1))] [] σ2 K))))) : PV 5 35 [some (.ref 37), some (.ref 11), some (.ref 20), some (.int a), some (.int x4), some (.int x5)] [] σ K := by
  show PW none 5 35 [some (.ref 37), some (.ref 11), some (.ref 20), some (.int a), some (.int x4), some (.int x5)] [] σ _
  refine PW.runs hw_5 rfl 2 (q := (35, [some (.ref 37), some (.ref 11), some (.ref 20), some (.int a), some (.int x4), some (.int x5)], [], σ)) (q' := (39, [some (.ref 37), some (.ref 11), some (.ref 20), some (.int a), some (.int x4), some (.int x5)], [.int x4, .int x5], σ)) rfl ?_
  refine PW.icm (t := 72) (ins_l hw_5 rfl) rfl (fun hc1 => ?_) (fun hc1 => ?_)
  · replace h := (if_pos (c_geT hc1)).mp h
    exact PW.vret (ins_l hw_5 rfl) rfl ⟨rfl, h⟩
  · replace h := (if_neg (c_geF hc1)).mp h
    refine PW.runs hw_5 rfl 5 (q := (42, [some (.ref 37), some (.ref 11), some (.ref 20), some (.int a), some (.int x4), some (.int x5)], [], σ)) (q' := (50, [some (.ref 37), some (.ref 11), some (.ref 20), some (.int a), some (.int x4), some (.int x5)], [.int a, .ref 20, .int (σ 11 2), .int x5], σ)) rfl ?_
    refine PW.callS (vs := [.int x5, .int (σ 11 2), .ref 20, .int a]) (rest := []) (ins_l hw_5 rfl) rfl (Or.inl rfl) rfl (Nat.le_of_ble_eq_true rfl) (Nat.le_of_ble_eq_true rfl) (PW.mono h ?_)
    rintro _ σ1 ⟨v1, rfl, h⟩
    show PW none 5 53 [some (.ref 37), some (.ref 11), some (.ref 20), some (.int a), some (.int x4), some (.int x5)] [.int v1] σ1 _
    refine PW.ifc (t := 66) (ins_l hw_5 rfl) rfl (fun hc2 => ?_) (fun hc2 => ?_)
    · replace h := (if_pos (c_eqT hc2)).mp h
      refine PW.runs hw_5 rfl 2 (q := (66, [some (.ref 37), some (.ref 11), some (.ref 20), some (.int a), some (.int x4), some (.int x5)], [], σ1)) (q' := (35, [some (.ref 37), some (.ref 11), some (.ref 20), some (.int a), some (.int x4), some (.int (x5 + 1))], [], σ1)) rfl ?_
      exact h
    · replace h := (if_neg (c_eqF hc2)).mp h
      refine PW.runs hw_5 rfl 4 (q := (56, [some (.ref 37), some (.ref 11), some (.ref 20), some (.int a), some (.int x4), some (.int x5)], [], σ1)) (q' := (63, [some (.ref 37), some (.ref 11), some (.ref 20), some (.int a), some (.int x4), some (.int x5)], [.int (σ1 11 1), .int x5, .ref 37], σ1)) rfl ?_
      refine PW.callV (b := 37) (vs := [.int x5, .int (σ1 11 1)]) (rest := []) (ins_l hw_5 rfl) rfl rfl rfl (Nat.le_of_ble_eq_true rfl) (Nat.le_of_ble_eq_true rfl) (PW.mono h ?_)
      rintro _ σ2 ⟨rfl, h⟩
      show PW none 5 66 [some (.ref 37), some (.ref 11), some (.ref 20), some (.int a), some (.int x4), some (.int x5)] [] σ2 _
      refine PW.runs hw_5 rfl 2 (q := (66, [some (.ref 37), some (.ref 11), some (.ref 20), some (.int a), some (.int x4), some (.int x5)], [], σ2)) (q' := (35, [some (.ref 37), some (.ref 11), some (.ref 20), some (.int a), some (.int x4), some (.int (x5 + 1))], [], σ2)) rfl ?_
      exact h
theorem hw_6 : pins.getD 6 [] = pi_6 := rfl
/-! MapDuty$Lands.fits.(II[II)Z -/
set_option maxRecDepth 20000 in
theorem w_6 {a : Int32} {b : Int32} {c : Int32} {σ : St} {K : Int32 → St → Prop} (h : PI 6 3 [some (.int a), some (.int b), some (.ref 20), some (.int c), some (.int 0)] [] σ K) : CI 6 [.int a, .int b, .ref 20, .int c] σ K := by
  show PW none 6 0 [some (.int a), some (.int b), some (.ref 20), some (.int c), none] [] σ _
  refine PW.runs hw_6 rfl 2 (q := (0, [some (.int a), some (.int b), some (.ref 20), some (.int c), none], [], σ)) (q' := (3, [some (.int a), some (.int b), some (.ref 20), some (.int c), some (.int 0)], [], σ)) rfl ?_
  exact h
set_option maxRecDepth 20000 in
theorem w_6_3 {a : Int32} {b : Int32} {c : Int32} {x4 : Int32} {σ : St} {K : Int32 → St → Prop} (h : (if b ≤ x4 then K 1 σ else (if 5 ≤ x4 then K 1 σ else ((0 ≤ x4.toInt ∧ x4.toInt < 5) ∧ CI 192 [.int (a ^^^ (σ 20 (Int32.toNatClampNeg x4)))] σ (fun v1 σ1 => (if v1 ≤ c then PI 6 3 [some (.int a), some (.int b), some (.ref 20), some (.int c), some (.int (x4 + 1))] [] σ1 K else K 0 σ1)))))) : PI 6 3 [some (.int a), some (.int b), some (.ref 20), some (.int c), some (.int x4)] [] σ K := by
  show PW none 6 3 [some (.int a), some (.int b), some (.ref 20), some (.int c), some (.int x4)] [] σ _
  refine PW.runs hw_6 rfl 2 (q := (3, [some (.int a), some (.int b), some (.ref 20), some (.int c), some (.int x4)], [], σ)) (q' := (6, [some (.int a), some (.int b), some (.ref 20), some (.int c), some (.int x4)], [.int b, .int x4], σ)) rfl ?_
  refine PW.icm (t := 37) (ins_l hw_6 rfl) rfl (fun hc1 => ?_) (fun hc1 => ?_)
  · replace h := (if_pos (c_geT hc1)).mp h
    refine PW.runs hw_6 rfl 1 (q := (37, [some (.int a), some (.int b), some (.ref 20), some (.int c), some (.int x4)], [], σ)) (q' := (38, [some (.int a), some (.int b), some (.ref 20), some (.int c), some (.int x4)], [.int 1], σ)) rfl ?_
    exact PW.iret (ins_l hw_6 rfl) (Or.inr ⟨rfl, by decide⟩) ⟨_, rfl, h⟩
  · replace h := (if_neg (c_geF hc1)).mp h
    refine PW.runs hw_6 rfl 3 (q := (9, [some (.int a), some (.int b), some (.ref 20), some (.int c), some (.int x4)], [], σ)) (q' := (13, [some (.int a), some (.int b), some (.ref 20), some (.int c), some (.int x4)], [.int 5, .int x4], σ)) rfl ?_
    refine PW.icm (t := 37) (ins_l hw_6 rfl) rfl (fun hc2 => ?_) (fun hc2 => ?_)
    · replace h := (if_pos (c_geT hc2)).mp h
      refine PW.runs hw_6 rfl 1 (q := (37, [some (.int a), some (.int b), some (.ref 20), some (.int c), some (.int x4)], [], σ)) (q' := (38, [some (.int a), some (.int b), some (.ref 20), some (.int c), some (.int x4)], [.int 1], σ)) rfl ?_
      exact PW.iret (ins_l hw_6 rfl) (Or.inr ⟨rfl, by decide⟩) ⟨_, rfl, h⟩
    · replace h := (if_neg (c_geF hc2)).mp h
      refine PW.runs hw_6 rfl 3 (q := (16, [some (.int a), some (.int b), some (.ref 20), some (.int c), some (.int x4)], [], σ)) (q' := (20, [some (.int a), some (.int b), some (.ref 20), some (.int c), some (.int x4)], [.int x4, .ref 20, .int a], σ)) rfl ?_
      obtain ⟨hb1, h⟩ := h
      refine PW.iald (n := 5) (ins_l hw_6 rfl) rfl (idx_in hb1.1 hb1.2).1 ?_
      refine PW.runs hw_6 rfl 1 (q := (21, [some (.int a), some (.int b), some (.ref 20), some (.int c), some (.int x4)], [.int (σ 20 (Int32.toNatClampNeg x4)), .int a], σ)) (q' := (22, [some (.int a), some (.int b), some (.ref 20), some (.int c), some (.int x4)], [.int (a ^^^ (σ 20 (Int32.toNatClampNeg x4)))], σ)) rfl ?_
      refine PW.callS (vs := [.int (a ^^^ (σ 20 (Int32.toNatClampNeg x4)))]) (rest := []) (ins_l hw_6 rfl) rfl (Or.inl rfl) rfl (Nat.le_of_ble_eq_true rfl) (Nat.le_of_ble_eq_true rfl) (PW.mono h ?_)
      rintro _ σ1 ⟨v1, rfl, h⟩
      show PW none 6 25 [some (.int a), some (.int b), some (.ref 20), some (.int c), some (.int x4)] [.int v1] σ1 _
      refine PW.runs hw_6 rfl 1 (q := (25, [some (.int a), some (.int b), some (.ref 20), some (.int c), some (.int x4)], [.int v1], σ1)) (q' := (26, [some (.int a), some (.int b), some (.ref 20), some (.int c), some (.int x4)], [.int c, .int v1], σ1)) rfl ?_
      refine PW.icm (t := 31) (ins_l hw_6 rfl) rfl (fun hc3 => ?_) (fun hc3 => ?_)
      · replace h := (if_pos (c_leT hc3)).mp h
        refine PW.runs hw_6 rfl 2 (q := (31, [some (.int a), some (.int b), some (.ref 20), some (.int c), some (.int x4)], [], σ1)) (q' := (3, [some (.int a), some (.int b), some (.ref 20), some (.int c), some (.int (x4 + 1))], [], σ1)) rfl ?_
        exact h
      · replace h := (if_neg (c_leF hc3)).mp h
        refine PW.runs hw_6 rfl 1 (q := (29, [some (.int a), some (.int b), some (.ref 20), some (.int c), some (.int x4)], [], σ1)) (q' := (30, [some (.int a), some (.int b), some (.ref 20), some (.int c), some (.int x4)], [.int 0], σ1)) rfl ?_
        exact PW.iret (ins_l hw_6 rfl) (Or.inr ⟨rfl, by decide⟩) ⟨_, rfl, h⟩
theorem hw_7 : pins.getD 7 [] = pi_7 := rfl
/-! MapDuty$Lands.count.(II)V -/
set_option maxRecDepth 20000 in
theorem w_7 {a : Int32} {b : Int32} {σ : St} {K : St → Prop} (h : PV 7 22 [some (.ref 37), some (.int a), some (.int b), some (.int 0)] [] (s2 (s2 σ 37 0 ((σ 37 0) + 1)) 37 1 ((σ 37 1) &&& a)) K) : CV 7 [.ref 37, .int a, .int b] σ K := by
  show PW none 7 0 [some (.ref 37), some (.int a), some (.int b), none] [] σ _
  refine PW.runs hw_7 rfl 14 (q := (0, [some (.ref 37), some (.int a), some (.int b), none], [], σ)) (q' := (22, [some (.ref 37), some (.int a), some (.int b), some (.int 0)], [], (s2 (s2 σ 37 0 ((σ 37 0) + 1)) 37 1 ((σ 37 1) &&& a)))) rfl ?_
  exact h
set_option maxRecDepth 20000 in
theorem w_7_22 {a : Int32} {b : Int32} {x3 : Int32} {σ : St} {K : St → Prop} (h : (if b ≤ x3 then K σ else (if 12 ≤ x3 then K σ else ((0 ≤ x3.toInt ∧ x3.toInt < 12) ∧ CI 92 [.int a, .int x3] σ (fun v1 σ1 => PV 7 22 [some (.ref 37), some (.int a), some (.int b), some (.int (x3 + 1))] [] (s2 σ1 38 (Int32.toNatClampNeg x3) ((σ 38 (Int32.toNatClampNeg x3)) + v1)) K))))) : PV 7 22 [some (.ref 37), some (.int a), some (.int b), some (.int x3)] [] σ K := by
  show PW none 7 22 [some (.ref 37), some (.int a), some (.int b), some (.int x3)] [] σ _
  refine PW.runs hw_7 rfl 2 (q := (22, [some (.ref 37), some (.int a), some (.int b), some (.int x3)], [], σ)) (q' := (24, [some (.ref 37), some (.int a), some (.int b), some (.int x3)], [.int b, .int x3], σ)) rfl ?_
  refine PW.icm (t := 53) (ins_l hw_7 rfl) rfl (fun hc1 => ?_) (fun hc1 => ?_)
  · replace h := (if_pos (c_geT hc1)).mp h
    exact PW.vret (ins_l hw_7 rfl) rfl ⟨rfl, h⟩
  · replace h := (if_neg (c_geF hc1)).mp h
    refine PW.runs hw_7 rfl 2 (q := (27, [some (.ref 37), some (.int a), some (.int b), some (.int x3)], [], σ)) (q' := (30, [some (.ref 37), some (.int a), some (.int b), some (.int x3)], [.int 12, .int x3], σ)) rfl ?_
    refine PW.icm (t := 53) (ins_l hw_7 rfl) rfl (fun hc2 => ?_) (fun hc2 => ?_)
    · replace h := (if_pos (c_geT hc2)).mp h
      exact PW.vret (ins_l hw_7 rfl) rfl ⟨rfl, h⟩
    · replace h := (if_neg (c_geF hc2)).mp h
      refine PW.runs hw_7 rfl 4 (q := (33, [some (.ref 37), some (.int a), some (.int b), some (.int x3)], [], σ)) (q' := (39, [some (.ref 37), some (.int a), some (.int b), some (.int x3)], [.int x3, .ref 38, .int x3, .ref 38], σ)) rfl ?_
      obtain ⟨hb1, h⟩ := h
      refine PW.iald (n := 12) (ins_l hw_7 rfl) rfl (idx_in hb1.1 hb1.2).1 ?_
      refine PW.runs hw_7 rfl 2 (q := (40, [some (.ref 37), some (.int a), some (.int b), some (.int x3)], [.int (σ 38 (Int32.toNatClampNeg x3)), .int x3, .ref 38], σ)) (q' := (42, [some (.ref 37), some (.int a), some (.int b), some (.int x3)], [.int x3, .int a, .int (σ 38 (Int32.toNatClampNeg x3)), .int x3, .ref 38], σ)) rfl ?_
      refine PW.callS (vs := [.int a, .int x3]) (rest := [.int (σ 38 (Int32.toNatClampNeg x3)), .int x3, .ref 38]) (ins_l hw_7 rfl) rfl (Or.inr rfl) rfl (Nat.le_of_ble_eq_true rfl) (Nat.le_of_ble_eq_true rfl) (PW.mono h ?_)
      rintro _ σ1 ⟨v1, rfl, h⟩
      show PW none 7 45 [some (.ref 37), some (.int a), some (.int b), some (.int x3)] [.int v1, .int (σ 38 (Int32.toNatClampNeg x3)), .int x3, .ref 38] σ1 _
      refine PW.runs hw_7 rfl 1 (q := (45, [some (.ref 37), some (.int a), some (.int b), some (.int x3)], [.int v1, .int (σ 38 (Int32.toNatClampNeg x3)), .int x3, .ref 38], σ1)) (q' := (46, [some (.ref 37), some (.int a), some (.int b), some (.int x3)], [.int ((σ 38 (Int32.toNatClampNeg x3)) + v1), .int x3, .ref 38], σ1)) rfl ?_
      refine PW.iast (n := 12) (ins_l hw_7 rfl) rfl (idx_in hb1.1 hb1.2).1 ?_
      refine PW.runs hw_7 rfl 2 (q := (47, [some (.ref 37), some (.int a), some (.int b), some (.int x3)], [], (s2 σ1 38 (Int32.toNatClampNeg x3) ((σ 38 (Int32.toNatClampNeg x3)) + v1)))) (q' := (22, [some (.ref 37), some (.int a), some (.int b), some (.int (x3 + 1))], [], (s2 σ1 38 (Int32.toNatClampNeg x3) ((σ 38 (Int32.toNatClampNeg x3)) + v1)))) rfl ?_
      exact h
theorem hw_8 : pins.getD 8 [] = pi_8 := rfl
/-! MapDuty$Lands.lineToWalk.(I)I -/
set_option maxRecDepth 20000 in
theorem w_8 {a : Int32} {σ : St} {K : Int32 → St → Prop} (h : PI 8 10 [some (.ref 37), some (.int a), some (.int (-1)), some (.int (σ 37 0)), some (.int 0), none] [] σ K) : CI 8 [.ref 37, .int a] σ K := by
  show PW none 8 0 [some (.ref 37), some (.int a), none, none, none, none] [] σ _
  refine PW.runs hw_8 rfl 7 (q := (0, [some (.ref 37), some (.int a), none, none, none, none], [], σ)) (q' := (10, [some (.ref 37), some (.int a), some (.int (-1)), some (.int (σ 37 0)), some (.int 0), none], [], σ)) rfl ?_
  exact h
set_option maxRecDepth 20000 in
theorem w_8_10 {a : Int32} {x2 : Int32} {x3 : Int32} {x4 : Int32} {o5 : Option Value} {σ : St} {K : Int32 → St → Prop} (h : (if a ≤ x4 then K x2 σ else (if 12 ≤ x4 then K x2 σ else ((0 ≤ x4.toInt ∧ x4.toInt < 12) ∧ (if x3 ≤ (if (σ 38 (Int32.toNatClampNeg x4)) < ((σ 37 0) - (σ 38 (Int32.toNatClampNeg x4))) then ((σ 37 0) - (σ 38 (Int32.toNatClampNeg x4))) else (σ 38 (Int32.toNatClampNeg x4))) then PI 8 10 [some (.ref 37), some (.int a), some (.int x2), some (.int x3), some (.int (x4 + 1)), some (.int (if (σ 38 (Int32.toNatClampNeg x4)) < ((σ 37 0) - (σ 38 (Int32.toNatClampNeg x4))) then ((σ 37 0) - (σ 38 (Int32.toNatClampNeg x4))) else (σ 38 (Int32.toNatClampNeg x4))))] [] σ K else PI 8 10 [some (.ref 37), some (.int a), some (.int x4), some (.int (if (σ 38 (Int32.toNatClampNeg x4)) < ((σ 37 0) - (σ 38 (Int32.toNatClampNeg x4))) then ((σ 37 0) - (σ 38 (Int32.toNatClampNeg x4))) else (σ 38 (Int32.toNatClampNeg x4)))), some (.int (x4 + 1)), some (.int (if (σ 38 (Int32.toNatClampNeg x4)) < ((σ 37 0) - (σ 38 (Int32.toNatClampNeg x4))) then ((σ 37 0) - (σ 38 (Int32.toNatClampNeg x4))) else (σ 38 (Int32.toNatClampNeg x4))))] [] σ K))))) : PI 8 10 [some (.ref 37), some (.int a), some (.int x2), some (.int x3), some (.int x4), o5] [] σ K := by
  show PW none 8 10 [some (.ref 37), some (.int a), some (.int x2), some (.int x3), some (.int x4), o5] [] σ _
  refine PW.runs hw_8 rfl 2 (q := (10, [some (.ref 37), some (.int a), some (.int x2), some (.int x3), some (.int x4), o5], [], σ)) (q' := (13, [some (.ref 37), some (.int a), some (.int x2), some (.int x3), some (.int x4), o5], [.int a, .int x4], σ)) rfl ?_
  refine PW.icm (t := 65) (ins_l hw_8 rfl) rfl (fun hc1 => ?_) (fun hc1 => ?_)
  · replace h := (if_pos (c_geT hc1)).mp h
    refine PW.runs hw_8 rfl 1 (q := (65, [some (.ref 37), some (.int a), some (.int x2), some (.int x3), some (.int x4), o5], [], σ)) (q' := (66, [some (.ref 37), some (.int a), some (.int x2), some (.int x3), some (.int x4), o5], [.int x2], σ)) rfl ?_
    exact PW.iret (ins_l hw_8 rfl) (Or.inl rfl) ⟨_, rfl, h⟩
  · replace h := (if_neg (c_geF hc1)).mp h
    refine PW.runs hw_8 rfl 2 (q := (16, [some (.ref 37), some (.int a), some (.int x2), some (.int x3), some (.int x4), o5], [], σ)) (q' := (20, [some (.ref 37), some (.int a), some (.int x2), some (.int x3), some (.int x4), o5], [.int 12, .int x4], σ)) rfl ?_
    refine PW.icm (t := 65) (ins_l hw_8 rfl) rfl (fun hc2 => ?_) (fun hc2 => ?_)
    · replace h := (if_pos (c_geT hc2)).mp h
      refine PW.runs hw_8 rfl 1 (q := (65, [some (.ref 37), some (.int a), some (.int x2), some (.int x3), some (.int x4), o5], [], σ)) (q' := (66, [some (.ref 37), some (.int a), some (.int x2), some (.int x3), some (.int x4), o5], [.int x2], σ)) rfl ?_
      exact PW.iret (ins_l hw_8 rfl) (Or.inl rfl) ⟨_, rfl, h⟩
    · replace h := (if_neg (c_geF hc2)).mp h
      refine PW.runs hw_8 rfl 3 (q := (23, [some (.ref 37), some (.int a), some (.int x2), some (.int x3), some (.int x4), o5], [], σ)) (q' := (29, [some (.ref 37), some (.int a), some (.int x2), some (.int x3), some (.int x4), o5], [.int x4, .ref 38], σ)) rfl ?_
      obtain ⟨hb1, h⟩ := h
      refine PW.iald (n := 12) (ins_l hw_8 rfl) rfl (idx_in hb1.1 hb1.2).1 ?_
      refine PW.runs hw_8 rfl 5 (q := (30, [some (.ref 37), some (.int a), some (.int x2), some (.int x3), some (.int x4), o5], [.int (σ 38 (Int32.toNatClampNeg x4))], σ)) (q' := (40, [some (.ref 37), some (.int a), some (.int x2), some (.int x3), some (.int x4), o5], [.int x4, .ref 38, .int (σ 37 0), .int (σ 38 (Int32.toNatClampNeg x4))], σ)) rfl ?_
      refine PW.iald (n := 12) (ins_l hw_8 rfl) rfl (idx_in hb1.1 hb1.2).1 ?_
      refine PW.runs hw_8 rfl 1 (q := (41, [some (.ref 37), some (.int a), some (.int x2), some (.int x3), some (.int x4), o5], [.int (σ 38 (Int32.toNatClampNeg x4)), .int (σ 37 0), .int (σ 38 (Int32.toNatClampNeg x4))], σ)) (q' := (42, [some (.ref 37), some (.int a), some (.int x2), some (.int x3), some (.int x4), o5], [.int ((σ 37 0) - (σ 38 (Int32.toNatClampNeg x4))), .int (σ 38 (Int32.toNatClampNeg x4))], σ)) rfl ?_
      refine PW.max (q := (45, [some (.ref 37), some (.int a), some (.int x2), some (.int x3), some (.int x4), o5], [.int (if (σ 38 (Int32.toNatClampNeg x4)) < ((σ 37 0) - (σ 38 (Int32.toNatClampNeg x4))) then ((σ 37 0) - (σ 38 (Int32.toNatClampNeg x4))) else (σ 38 (Int32.toNatClampNeg x4)))], σ)) (ins_l hw_8 rfl) rfl rfl ?_
      refine PW.runs hw_8 rfl 3 (q := (45, [some (.ref 37), some (.int a), some (.int x2), some (.int x3), some (.int x4), o5], [.int (if (σ 38 (Int32.toNatClampNeg x4)) < ((σ 37 0) - (σ 38 (Int32.toNatClampNeg x4))) then ((σ 37 0) - (σ 38 (Int32.toNatClampNeg x4))) else (σ 38 (Int32.toNatClampNeg x4)))], σ)) (q' := (50, [some (.ref 37), some (.int a), some (.int x2), some (.int x3), some (.int x4), some (.int (if (σ 38 (Int32.toNatClampNeg x4)) < ((σ 37 0) - (σ 38 (Int32.toNatClampNeg x4))) then ((σ 37 0) - (σ 38 (Int32.toNatClampNeg x4))) else (σ 38 (Int32.toNatClampNeg x4))))], [.int x3, .int (if (σ 38 (Int32.toNatClampNeg x4)) < ((σ 37 0) - (σ 38 (Int32.toNatClampNeg x4))) then ((σ 37 0) - (σ 38 (Int32.toNatClampNeg x4))) else (σ 38 (Int32.toNatClampNeg x4)))], σ)) rfl ?_
      refine PW.icm (t := 59) (ins_l hw_8 rfl) rfl (fun hc3 => ?_) (fun hc3 => ?_)
      · replace h := (if_pos (c_geT hc3)).mp h
        refine PW.runs hw_8 rfl 2 (q := (59, [some (.ref 37), some (.int a), some (.int x2), some (.int x3), some (.int x4), some (.int (if (σ 38 (Int32.toNatClampNeg x4)) < ((σ 37 0) - (σ 38 (Int32.toNatClampNeg x4))) then ((σ 37 0) - (σ 38 (Int32.toNatClampNeg x4))) else (σ 38 (Int32.toNatClampNeg x4))))], [], σ)) (q' := (10, [some (.ref 37), some (.int a), some (.int x2), some (.int x3), some (.int (x4 + 1)), some (.int (if (σ 38 (Int32.toNatClampNeg x4)) < ((σ 37 0) - (σ 38 (Int32.toNatClampNeg x4))) then ((σ 37 0) - (σ 38 (Int32.toNatClampNeg x4))) else (σ 38 (Int32.toNatClampNeg x4))))], [], σ)) rfl ?_
        exact h
      · replace h := (if_neg (c_geF hc3)).mp h
        refine PW.runs hw_8 rfl 6 (q := (53, [some (.ref 37), some (.int a), some (.int x2), some (.int x3), some (.int x4), some (.int (if (σ 38 (Int32.toNatClampNeg x4)) < ((σ 37 0) - (σ 38 (Int32.toNatClampNeg x4))) then ((σ 37 0) - (σ 38 (Int32.toNatClampNeg x4))) else (σ 38 (Int32.toNatClampNeg x4))))], [], σ)) (q' := (10, [some (.ref 37), some (.int a), some (.int x4), some (.int (if (σ 38 (Int32.toNatClampNeg x4)) < ((σ 37 0) - (σ 38 (Int32.toNatClampNeg x4))) then ((σ 37 0) - (σ 38 (Int32.toNatClampNeg x4))) else (σ 38 (Int32.toNatClampNeg x4)))), some (.int (x4 + 1)), some (.int (if (σ 38 (Int32.toNatClampNeg x4)) < ((σ 37 0) - (σ 38 (Int32.toNatClampNeg x4))) then ((σ 37 0) - (σ 38 (Int32.toNatClampNeg x4))) else (σ 38 (Int32.toNatClampNeg x4))))], [], σ)) rfl ?_
        exact h
/-! java/util/Arrays.fill.([II)V -/
set_option maxRecDepth 20000 in
theorem w_193_38 {a : Int32} {σ : St} {K : St → Prop} (h : PV 193 5 [some (.ref 38), some (.int a), some (.int 0), some (.int 12)] [] σ K) : CV 193 [.ref 38, .int a] σ K := by
  show PW none 193 0 [some (.ref 38), some (.int a), none, none] [] σ _
  refine PW.runs hw_193 rfl 5 (q := (0, [some (.ref 38), some (.int a), none, none], [], σ)) (q' := (5, [some (.ref 38), some (.int a), some (.int 0), some (.int 12)], [], σ)) rfl ?_
  exact h
set_option maxRecDepth 20000 in
theorem w_193_38_5 {a : Int32} {x2 : Int32} {x3 : Int32} {σ : St} {K : St → Prop} (h : (if x3 ≤ x2 then K σ else ((0 ≤ x2.toInt ∧ x2.toInt < 12) ∧ PV 193 5 [some (.ref 38), some (.int a), some (.int (x2 + 1)), some (.int x3)] [] (s2 σ 38 (Int32.toNatClampNeg x2) a) K))) : PV 193 5 [some (.ref 38), some (.int a), some (.int x2), some (.int x3)] [] σ K := by
  show PW none 193 5 [some (.ref 38), some (.int a), some (.int x2), some (.int x3)] [] σ _
  refine PW.runs hw_193 rfl 2 (q := (5, [some (.ref 38), some (.int a), some (.int x2), some (.int x3)], [], σ)) (q' := (7, [some (.ref 38), some (.int a), some (.int x2), some (.int x3)], [.int x3, .int x2], σ)) rfl ?_
  refine PW.icm (t := 20) (ins_l hw_193 rfl) rfl (fun hc1 => ?_) (fun hc1 => ?_)
  · replace h := (if_pos (c_geT hc1)).mp h
    exact PW.vret (ins_l hw_193 rfl) rfl ⟨rfl, h⟩
  · replace h := (if_neg (c_geF hc1)).mp h
    refine PW.runs hw_193 rfl 3 (q := (10, [some (.ref 38), some (.int a), some (.int x2), some (.int x3)], [], σ)) (q' := (13, [some (.ref 38), some (.int a), some (.int x2), some (.int x3)], [.int a, .int x2, .ref 38], σ)) rfl ?_
    obtain ⟨hb1, h⟩ := h
    refine PW.iast (n := 12) (ins_l hw_193 rfl) rfl (idx_in hb1.1 hb1.2).1 ?_
    refine PW.runs hw_193 rfl 2 (q := (14, [some (.ref 38), some (.int a), some (.int x2), some (.int x3)], [], (s2 σ 38 (Int32.toNatClampNeg x2) a))) (q' := (5, [some (.ref 38), some (.int a), some (.int (x2 + 1)), some (.int x3)], [], (s2 σ 38 (Int32.toNatClampNeg x2) a))) rfl ?_
    exact h
theorem hw_171 : pins.getD 171 [] = pi_171 := rfl
/-! MapDutyModel.makesAll.(I)Z -/
set_option maxRecDepth 20000 in
theorem w_171 {a : Int32} {σ : St} {K : Int32 → St → Prop} (h : PI 171 4 [some (.ref 39), some (.int a), some (.int 1), some (.int 0)] [] σ K) : CI 171 [.ref 39, .int a] σ K := by
  show PW none 171 0 [some (.ref 39), some (.int a), none, none] [] σ _
  refine PW.runs hw_171 rfl 4 (q := (0, [some (.ref 39), some (.int a), none, none], [], σ)) (q' := (4, [some (.ref 39), some (.int a), some (.int 1), some (.int 0)], [], σ)) rfl ?_
  exact h
set_option maxRecDepth 20000 in
theorem w_171_4 {a : Int32} {x2 : Int32} {x3 : Int32} {σ : St} {K : Int32 → St → Prop} (h : (if (σ 39 34) ≤ x3 then ((x2 = 0 ∨ x2 = 1) ∧ K x2 σ) else (if x2 = 0 then ((x2 = 0 ∨ x2 = 1) ∧ K x2 σ) else ((0 ≤ x3.toInt ∧ x3.toInt < 4) ∧ CI 140 [.ref 39, .int (σ 57 (Int32.toNatClampNeg x3)), .int (σ 58 (Int32.toNatClampNeg x3)), .int a] σ (fun v1 σ1 => PI 171 4 [some (.ref 39), some (.int a), some (.int v1), some (.int (x3 + 1))] [] σ1 K))))) : PI 171 4 [some (.ref 39), some (.int a), some (.int x2), some (.int x3)] [] σ K := by
  show PW none 171 4 [some (.ref 39), some (.int a), some (.int x2), some (.int x3)] [] σ _
  refine PW.runs hw_171 rfl 3 (q := (4, [some (.ref 39), some (.int a), some (.int x2), some (.int x3)], [], σ)) (q' := (9, [some (.ref 39), some (.int a), some (.int x2), some (.int x3)], [.int (σ 39 34), .int x3], σ)) rfl ?_
  refine PW.icm (t := 40) (ins_l hw_171 rfl) rfl (fun hc1 => ?_) (fun hc1 => ?_)
  · replace h := (if_pos (c_geT hc1)).mp h
    refine PW.runs hw_171 rfl 1 (q := (40, [some (.ref 39), some (.int a), some (.int x2), some (.int x3)], [], σ)) (q' := (41, [some (.ref 39), some (.int a), some (.int x2), some (.int x3)], [.int x2], σ)) rfl ?_
    exact PW.iret (ins_l hw_171 rfl) (Or.inr ⟨rfl, h.1⟩) ⟨_, rfl, h.2⟩
  · replace h := (if_neg (c_geF hc1)).mp h
    refine PW.runs hw_171 rfl 1 (q := (12, [some (.ref 39), some (.int a), some (.int x2), some (.int x3)], [], σ)) (q' := (13, [some (.ref 39), some (.int a), some (.int x2), some (.int x3)], [.int x2], σ)) rfl ?_
    refine PW.ifc (t := 40) (ins_l hw_171 rfl) rfl (fun hc2 => ?_) (fun hc2 => ?_)
    · replace h := (if_pos (c_eqT hc2)).mp h
      refine PW.runs hw_171 rfl 1 (q := (40, [some (.ref 39), some (.int a), some (.int x2), some (.int x3)], [], σ)) (q' := (41, [some (.ref 39), some (.int a), some (.int x2), some (.int x3)], [.int x2], σ)) rfl ?_
      exact PW.iret (ins_l hw_171 rfl) (Or.inr ⟨rfl, h.1⟩) ⟨_, rfl, h.2⟩
    · replace h := (if_neg (c_eqF hc2)).mp h
      refine PW.runs hw_171 rfl 4 (q := (16, [some (.ref 39), some (.int a), some (.int x2), some (.int x3)], [], σ)) (q' := (22, [some (.ref 39), some (.int a), some (.int x2), some (.int x3)], [.int x3, .ref 57, .ref 39], σ)) rfl ?_
      obtain ⟨hb1, h⟩ := h
      refine PW.iald (n := 4) (ins_l hw_171 rfl) rfl (idx_in hb1.1 hb1.2).1 ?_
      refine PW.runs hw_171 rfl 3 (q := (23, [some (.ref 39), some (.int a), some (.int x2), some (.int x3)], [.int (σ 57 (Int32.toNatClampNeg x3)), .ref 39], σ)) (q' := (28, [some (.ref 39), some (.int a), some (.int x2), some (.int x3)], [.int x3, .ref 58, .int (σ 57 (Int32.toNatClampNeg x3)), .ref 39], σ)) rfl ?_
      refine PW.iald (n := 4) (ins_l hw_171 rfl) rfl (idx_in hb1.1 hb1.2).1 ?_
      refine PW.runs hw_171 rfl 1 (q := (29, [some (.ref 39), some (.int a), some (.int x2), some (.int x3)], [.int (σ 58 (Int32.toNatClampNeg x3)), .int (σ 57 (Int32.toNatClampNeg x3)), .ref 39], σ)) (q' := (30, [some (.ref 39), some (.int a), some (.int x2), some (.int x3)], [.int a, .int (σ 58 (Int32.toNatClampNeg x3)), .int (σ 57 (Int32.toNatClampNeg x3)), .ref 39], σ)) rfl ?_
      refine PW.callV (b := 39) (vs := [.int (σ 57 (Int32.toNatClampNeg x3)), .int (σ 58 (Int32.toNatClampNeg x3)), .int a]) (rest := []) (ins_l hw_171 rfl) rfl rfl rfl (Nat.le_of_ble_eq_true rfl) (Nat.le_of_ble_eq_true rfl) (PW.mono h ?_)
      rintro _ σ1 ⟨v1, rfl, h⟩
      show PW none 171 33 [some (.ref 39), some (.int a), some (.int x2), some (.int x3)] [.int v1] σ1 _
      refine PW.runs hw_171 rfl 3 (q := (33, [some (.ref 39), some (.int a), some (.int x2), some (.int x3)], [.int v1], σ1)) (q' := (4, [some (.ref 39), some (.int a), some (.int v1), some (.int (x3 + 1))], [], σ1)) rfl ?_
      exact h
theorem hw_172 : pins.getD 172 [] = pi_172 := rfl
/-! MapDutyModel.least.(II)I -/
set_option maxRecDepth 20000 in
theorem w_172 {a : Int32} {b : Int32} {σ : St} {K : Int32 → St → Prop} (h : CI 109 [.long (Int32.toInt64 a), .long 0, .long 4] σ (fun v1 σ1 => (if v1 = 0 then K (-1000000002) σ1 else CI 109 [.long (Int32.toInt64 b), .long 0, .long 1] σ1 (fun v2 σ2 => (if v2 = 0 then K (-1000000002) σ2 else PI 172 34 [some (.ref 39), some (.int a), some (.int b), some (.int (-1)), some (.int 1000000), some (.int 0), none, none] [] σ2 K))))) : CI 172 [.ref 39, .int a, .int b] σ K := by
  show PW none 172 0 [some (.ref 39), some (.int a), some (.int b), none, none, none, none, none] [] σ _
  refine PW.runs hw_172 rfl 4 (q := (0, [some (.ref 39), some (.int a), some (.int b), none, none, none, none, none], [], σ)) (q' := (6, [some (.ref 39), some (.int a), some (.int b), none, none, none, none, none], [.long 4, .long 0, .long (Int32.toInt64 a)], σ)) rfl ?_
  refine PW.callS (vs := [.long (Int32.toInt64 a), .long 0, .long 4]) (rest := []) (ins_l hw_172 rfl) rfl (Or.inl rfl) rfl (Nat.le_of_ble_eq_true rfl) (Nat.le_of_ble_eq_true rfl) (PW.mono h ?_)
  rintro _ σ1 ⟨v1, rfl, h⟩
  show PW none 172 9 [some (.ref 39), some (.int a), some (.int b), none, none, none, none, none] [.int v1] σ1 _
  refine PW.ifc (t := 22) (ins_l hw_172 rfl) rfl (fun hc1 => ?_) (fun hc1 => ?_)
  · replace h := (if_pos (c_eqT hc1)).mp h
    refine PW.runs hw_172 rfl 1 (q := (22, [some (.ref 39), some (.int a), some (.int b), none, none, none, none, none], [], σ1)) (q' := (24, [some (.ref 39), some (.int a), some (.int b), none, none, none, none, none], [.int (-1000000002)], σ1)) rfl ?_
    exact PW.iret (ins_l hw_172 rfl) (Or.inl rfl) ⟨_, rfl, h⟩
  · replace h := (if_neg (c_eqF hc1)).mp h
    refine PW.runs hw_172 rfl 4 (q := (12, [some (.ref 39), some (.int a), some (.int b), none, none, none, none, none], [], σ1)) (q' := (16, [some (.ref 39), some (.int a), some (.int b), none, none, none, none, none], [.long 1, .long 0, .long (Int32.toInt64 b)], σ1)) rfl ?_
    refine PW.callS (vs := [.long (Int32.toInt64 b), .long 0, .long 1]) (rest := []) (ins_l hw_172 rfl) rfl (Or.inl rfl) rfl (Nat.le_of_ble_eq_true rfl) (Nat.le_of_ble_eq_true rfl) (PW.mono h ?_)
    rintro _ σ2 ⟨v2, rfl, h⟩
    show PW none 172 19 [some (.ref 39), some (.int a), some (.int b), none, none, none, none, none] [.int v2] σ2 _
    refine PW.ifc (t := 25) (ins_l hw_172 rfl) rfl (fun hc2 => ?_) (fun hc2 => ?_)
    · replace h := (if_neg (c_neT hc2)).mp h
      refine PW.runs hw_172 rfl 6 (q := (25, [some (.ref 39), some (.int a), some (.int b), none, none, none, none, none], [], σ2)) (q' := (34, [some (.ref 39), some (.int a), some (.int b), some (.int (-1)), some (.int 1000000), some (.int 0), none, none], [], σ2)) rfl ?_
      exact h
    · replace h := (if_pos (c_neF hc2)).mp h
      refine PW.runs hw_172 rfl 1 (q := (22, [some (.ref 39), some (.int a), some (.int b), none, none, none, none, none], [], σ2)) (q' := (24, [some (.ref 39), some (.int a), some (.int b), none, none, none, none, none], [.int (-1000000002)], σ2)) rfl ?_
      exact PW.iret (ins_l hw_172 rfl) (Or.inl rfl) ⟨_, rfl, h⟩
set_option maxRecDepth 20000 in
theorem w_172_34 {a : Int32} {b : Int32} {x3 : Int32} {x4 : Int32} {x5 : Int32} {o6 : Option Value} {o7 : Option Value} {σ : St} {K : Int32 → St → Prop} (h : (if (1 <<< ((σ 39 1) &&& 31)) ≤ x5 then (if x3 < 0 then K x3 σ else (if b = 1 then K x3 σ else K x4 σ)) else (if (x5 &&& ((σ 46 10) ^^^ (-1))) = 0 then CI 135 [.ref 39, .int a, .int x5] σ (fun v2 σ2 => (if x4 ≤ v2 then PI 172 34 [some (.ref 39), some (.int a), some (.int b), some (.int x3), some (.int x4), some (.int (x5 + 1)), some (.int v2), some (.int 0)] [] σ2 K else CI 171 [.ref 39, .int x5] σ2 (fun v3 σ3 => (if v3 = 0 then PI 172 34 [some (.ref 39), some (.int a), some (.int b), some (.int x3), some (.int x4), some (.int (x5 + 1)), some (.int v2), some (.int 0)] [] σ3 K else PI 172 34 [some (.ref 39), some (.int a), some (.int b), some (.int x5), some (.int v2), some (.int (x5 + 1)), some (.int v2), some (.int 1)] [] σ3 K)))) else (if x4 ≤ 1000000 then PI 172 34 [some (.ref 39), some (.int a), some (.int b), some (.int x3), some (.int x4), some (.int (x5 + 1)), some (.int 1000000), some (.int 0)] [] σ K else CI 171 [.ref 39, .int x5] σ (fun v1 σ1 => (if v1 = 0 then PI 172 34 [some (.ref 39), some (.int a), some (.int b), some (.int x3), some (.int x4), some (.int (x5 + 1)), some (.int 1000000), some (.int 0)] [] σ1 K else PI 172 34 [some (.ref 39), some (.int a), some (.int b), some (.int x5), some (.int 1000000), some (.int (x5 + 1)), some (.int 1000000), some (.int 1)] [] σ1 K)))))) : PI 172 34 [some (.ref 39), some (.int a), some (.int b), some (.int x3), some (.int x4), some (.int x5), o6, o7] [] σ K := by
  show PW none 172 34 [some (.ref 39), some (.int a), some (.int b), some (.int x3), some (.int x4), some (.int x5), o6, o7] [] σ _
  refine PW.runs hw_172 rfl 5 (q := (34, [some (.ref 39), some (.int a), some (.int b), some (.int x3), some (.int x4), some (.int x5), o6, o7], [], σ)) (q' := (42, [some (.ref 39), some (.int a), some (.int b), some (.int x3), some (.int x4), some (.int x5), o6, o7], [.int (1 <<< ((σ 39 1) &&& 31)), .int x5], σ)) rfl ?_
  refine PW.icm (t := 129) (ins_l hw_172 rfl) rfl (fun hc1 => ?_) (fun hc1 => ?_)
  · replace h := (if_pos (c_geT hc1)).mp h
    refine PW.runs hw_172 rfl 1 (q := (129, [some (.ref 39), some (.int a), some (.int b), some (.int x3), some (.int x4), some (.int x5), o6, o7], [], σ)) (q' := (130, [some (.ref 39), some (.int a), some (.int b), some (.int x3), some (.int x4), some (.int x5), o6, o7], [.int x3], σ)) rfl ?_
    refine PW.ifc (t := 138) (ins_l hw_172 rfl) rfl (fun hc2 => ?_) (fun hc2 => ?_)
    · replace h := (if_pos (c_ltT hc2)).mp h
      refine PW.runs hw_172 rfl 2 (q := (138, [some (.ref 39), some (.int a), some (.int b), some (.int x3), some (.int x4), some (.int x5), o6, o7], [], σ)) (q' := (144, [some (.ref 39), some (.int a), some (.int b), some (.int x3), some (.int x4), some (.int x5), o6, o7], [.int x3], σ)) rfl ?_
      exact PW.iret (ins_l hw_172 rfl) (Or.inl rfl) ⟨_, rfl, h⟩
    · replace h := (if_neg (c_ltF hc2)).mp h
      refine PW.runs hw_172 rfl 2 (q := (133, [some (.ref 39), some (.int a), some (.int b), some (.int x3), some (.int x4), some (.int x5), o6, o7], [], σ)) (q' := (135, [some (.ref 39), some (.int a), some (.int b), some (.int x3), some (.int x4), some (.int x5), o6, o7], [.int 1, .int b], σ)) rfl ?_
      refine PW.icm (t := 142) (ins_l hw_172 rfl) rfl (fun hc3 => ?_) (fun hc3 => ?_)
      · replace h := (if_neg (c_neT hc3)).mp h
        refine PW.runs hw_172 rfl 1 (q := (142, [some (.ref 39), some (.int a), some (.int b), some (.int x3), some (.int x4), some (.int x5), o6, o7], [], σ)) (q' := (144, [some (.ref 39), some (.int a), some (.int b), some (.int x3), some (.int x4), some (.int x5), o6, o7], [.int x4], σ)) rfl ?_
        exact PW.iret (ins_l hw_172 rfl) (Or.inl rfl) ⟨_, rfl, h⟩
      · replace h := (if_pos (c_neF hc3)).mp h
        refine PW.runs hw_172 rfl 2 (q := (138, [some (.ref 39), some (.int a), some (.int b), some (.int x3), some (.int x4), some (.int x5), o6, o7], [], σ)) (q' := (144, [some (.ref 39), some (.int a), some (.int b), some (.int x3), some (.int x4), some (.int x5), o6, o7], [.int x3], σ)) rfl ?_
        exact PW.iret (ins_l hw_172 rfl) (Or.inl rfl) ⟨_, rfl, h⟩
  · replace h := (if_neg (c_geF hc1)).mp h
    refine PW.runs hw_172 rfl 4 (q := (45, [some (.ref 39), some (.int a), some (.int b), some (.int x3), some (.int x4), some (.int x5), o6, o7], [], σ)) (q' := (53, [some (.ref 39), some (.int a), some (.int b), some (.int x3), some (.int x4), some (.int x5), o6, o7], [.int 10, .ref 46, .int x5], σ)) rfl ?_
    refine PW.iald (n := 14) (ins_l hw_172 rfl) rfl (by decide) ?_
    refine PW.runs hw_172 rfl 3 (q := (54, [some (.ref 39), some (.int a), some (.int b), some (.int x3), some (.int x4), some (.int x5), o6, o7], [.int (σ 46 10), .int x5], σ)) (q' := (57, [some (.ref 39), some (.int a), some (.int b), some (.int x3), some (.int x4), some (.int x5), o6, o7], [.int (x5 &&& ((σ 46 10) ^^^ (-1)))], σ)) rfl ?_
    refine PW.ifc (t := 70) (ins_l hw_172 rfl) rfl (fun hc2 => ?_) (fun hc2 => ?_)
    · replace h := (if_neg (c_neT hc2)).mp h
      refine PW.runs hw_172 rfl 4 (q := (70, [some (.ref 39), some (.int a), some (.int b), some (.int x3), some (.int x4), some (.int x5), o6, o7], [], σ)) (q' := (78, [some (.ref 39), some (.int a), some (.int b), some (.int x3), some (.int x4), some (.int x5), some (.int 1000000), o7], [.int x4, .int 1000000], σ)) rfl ?_
      refine PW.icm (t := 94) (ins_l hw_172 rfl) rfl (fun hc3 => ?_) (fun hc3 => ?_)
      · replace h := (if_pos (c_geT hc3)).mp h
        refine PW.runs hw_172 rfl 3 (q := (94, [some (.ref 39), some (.int a), some (.int b), some (.int x3), some (.int x4), some (.int x5), some (.int 1000000), o7], [], σ)) (q' := (99, [some (.ref 39), some (.int a), some (.int b), some (.int x3), some (.int x4), some (.int x5), some (.int 1000000), some (.int 0)], [.int 0], σ)) rfl ?_
        refine PW.ifcT (t := 107) (ins_l hw_172 rfl) rfl (by decide) ?_
        refine PW.runs hw_172 rfl 3 (q := (107, [some (.ref 39), some (.int a), some (.int b), some (.int x3), some (.int x4), some (.int x5), some (.int 1000000), some (.int 0)], [], σ)) (q' := (111, [some (.ref 39), some (.int a), some (.int b), some (.int x3), some (.int x4), some (.int x5), some (.int 1000000), some (.int 0)], [.int 0], σ)) rfl ?_
        refine PW.ifcT (t := 119) (ins_l hw_172 rfl) rfl (by decide) ?_
        refine PW.runs hw_172 rfl 4 (q := (119, [some (.ref 39), some (.int a), some (.int b), some (.int x3), some (.int x4), some (.int x5), some (.int 1000000), some (.int 0)], [], σ)) (q' := (34, [some (.ref 39), some (.int a), some (.int b), some (.int x3), some (.int x4), some (.int (x5 + 1)), some (.int 1000000), some (.int 0)], [], σ)) rfl ?_
        exact h
      · replace h := (if_neg (c_geF hc3)).mp h
        refine PW.runs hw_172 rfl 2 (q := (81, [some (.ref 39), some (.int a), some (.int b), some (.int x3), some (.int x4), some (.int x5), some (.int 1000000), o7], [], σ)) (q' := (84, [some (.ref 39), some (.int a), some (.int b), some (.int x3), some (.int x4), some (.int x5), some (.int 1000000), o7], [.int x5, .ref 39], σ)) rfl ?_
        refine PW.callV (b := 39) (vs := [.int x5]) (rest := []) (ins_l hw_172 rfl) rfl rfl rfl (Nat.le_of_ble_eq_true rfl) (Nat.le_of_ble_eq_true rfl) (PW.mono h ?_)
        rintro _ σ1 ⟨v1, rfl, h⟩
        show PW none 172 87 [some (.ref 39), some (.int a), some (.int b), some (.int x3), some (.int x4), some (.int x5), some (.int 1000000), o7] [.int v1] σ1 _
        refine PW.ifc (t := 94) (ins_l hw_172 rfl) rfl (fun hc4 => ?_) (fun hc4 => ?_)
        · replace h := (if_pos (c_eqT hc4)).mp h
          refine PW.runs hw_172 rfl 3 (q := (94, [some (.ref 39), some (.int a), some (.int b), some (.int x3), some (.int x4), some (.int x5), some (.int 1000000), o7], [], σ1)) (q' := (99, [some (.ref 39), some (.int a), some (.int b), some (.int x3), some (.int x4), some (.int x5), some (.int 1000000), some (.int 0)], [.int 0], σ1)) rfl ?_
          refine PW.ifcT (t := 107) (ins_l hw_172 rfl) rfl (by decide) ?_
          refine PW.runs hw_172 rfl 3 (q := (107, [some (.ref 39), some (.int a), some (.int b), some (.int x3), some (.int x4), some (.int x5), some (.int 1000000), some (.int 0)], [], σ1)) (q' := (111, [some (.ref 39), some (.int a), some (.int b), some (.int x3), some (.int x4), some (.int x5), some (.int 1000000), some (.int 0)], [.int 0], σ1)) rfl ?_
          refine PW.ifcT (t := 119) (ins_l hw_172 rfl) rfl (by decide) ?_
          refine PW.runs hw_172 rfl 4 (q := (119, [some (.ref 39), some (.int a), some (.int b), some (.int x3), some (.int x4), some (.int x5), some (.int 1000000), some (.int 0)], [], σ1)) (q' := (34, [some (.ref 39), some (.int a), some (.int b), some (.int x3), some (.int x4), some (.int (x5 + 1)), some (.int 1000000), some (.int 0)], [], σ1)) rfl ?_
          exact h
        · replace h := (if_neg (c_eqF hc4)).mp h
          refine PW.runs hw_172 rfl 4 (q := (90, [some (.ref 39), some (.int a), some (.int b), some (.int x3), some (.int x4), some (.int x5), some (.int 1000000), o7], [], σ1)) (q' := (99, [some (.ref 39), some (.int a), some (.int b), some (.int x3), some (.int x4), some (.int x5), some (.int 1000000), some (.int 1)], [.int 1], σ1)) rfl ?_
          refine PW.ifcF (t := 107) (ins_l hw_172 rfl) rfl (by decide) ?_
          refine PW.runs hw_172 rfl 4 (q := (102, [some (.ref 39), some (.int a), some (.int b), some (.int x3), some (.int x4), some (.int x5), some (.int 1000000), some (.int 1)], [], σ1)) (q' := (111, [some (.ref 39), some (.int a), some (.int b), some (.int x5), some (.int x4), some (.int x5), some (.int 1000000), some (.int 1)], [.int 1], σ1)) rfl ?_
          refine PW.ifcF (t := 119) (ins_l hw_172 rfl) rfl (by decide) ?_
          refine PW.runs hw_172 rfl 5 (q := (114, [some (.ref 39), some (.int a), some (.int b), some (.int x5), some (.int x4), some (.int x5), some (.int 1000000), some (.int 1)], [], σ1)) (q' := (34, [some (.ref 39), some (.int a), some (.int b), some (.int x5), some (.int 1000000), some (.int (x5 + 1)), some (.int 1000000), some (.int 1)], [], σ1)) rfl ?_
          exact h
    · replace h := (if_pos (c_neF hc2)).mp h
      refine PW.runs hw_172 rfl 3 (q := (60, [some (.ref 39), some (.int a), some (.int b), some (.int x3), some (.int x4), some (.int x5), o6, o7], [], σ)) (q' := (64, [some (.ref 39), some (.int a), some (.int b), some (.int x3), some (.int x4), some (.int x5), o6, o7], [.int x5, .int a, .ref 39], σ)) rfl ?_
      refine PW.callV (b := 39) (vs := [.int a, .int x5]) (rest := []) (ins_l hw_172 rfl) rfl rfl rfl (Nat.le_of_ble_eq_true rfl) (Nat.le_of_ble_eq_true rfl) (PW.mono h ?_)
      rintro _ σ2 ⟨v2, rfl, h⟩
      show PW none 172 67 [some (.ref 39), some (.int a), some (.int b), some (.int x3), some (.int x4), some (.int x5), o6, o7] [.int v2] σ2 _
      refine PW.runs hw_172 rfl 4 (q := (67, [some (.ref 39), some (.int a), some (.int b), some (.int x3), some (.int x4), some (.int x5), o6, o7], [.int v2], σ2)) (q' := (78, [some (.ref 39), some (.int a), some (.int b), some (.int x3), some (.int x4), some (.int x5), some (.int v2), o7], [.int x4, .int v2], σ2)) rfl ?_
      refine PW.icm (t := 94) (ins_l hw_172 rfl) rfl (fun hc3 => ?_) (fun hc3 => ?_)
      · replace h := (if_pos (c_geT hc3)).mp h
        refine PW.runs hw_172 rfl 3 (q := (94, [some (.ref 39), some (.int a), some (.int b), some (.int x3), some (.int x4), some (.int x5), some (.int v2), o7], [], σ2)) (q' := (99, [some (.ref 39), some (.int a), some (.int b), some (.int x3), some (.int x4), some (.int x5), some (.int v2), some (.int 0)], [.int 0], σ2)) rfl ?_
        refine PW.ifcT (t := 107) (ins_l hw_172 rfl) rfl (by decide) ?_
        refine PW.runs hw_172 rfl 3 (q := (107, [some (.ref 39), some (.int a), some (.int b), some (.int x3), some (.int x4), some (.int x5), some (.int v2), some (.int 0)], [], σ2)) (q' := (111, [some (.ref 39), some (.int a), some (.int b), some (.int x3), some (.int x4), some (.int x5), some (.int v2), some (.int 0)], [.int 0], σ2)) rfl ?_
        refine PW.ifcT (t := 119) (ins_l hw_172 rfl) rfl (by decide) ?_
        refine PW.runs hw_172 rfl 4 (q := (119, [some (.ref 39), some (.int a), some (.int b), some (.int x3), some (.int x4), some (.int x5), some (.int v2), some (.int 0)], [], σ2)) (q' := (34, [some (.ref 39), some (.int a), some (.int b), some (.int x3), some (.int x4), some (.int (x5 + 1)), some (.int v2), some (.int 0)], [], σ2)) rfl ?_
        exact h
      · replace h := (if_neg (c_geF hc3)).mp h
        refine PW.runs hw_172 rfl 2 (q := (81, [some (.ref 39), some (.int a), some (.int b), some (.int x3), some (.int x4), some (.int x5), some (.int v2), o7], [], σ2)) (q' := (84, [some (.ref 39), some (.int a), some (.int b), some (.int x3), some (.int x4), some (.int x5), some (.int v2), o7], [.int x5, .ref 39], σ2)) rfl ?_
        refine PW.callV (b := 39) (vs := [.int x5]) (rest := []) (ins_l hw_172 rfl) rfl rfl rfl (Nat.le_of_ble_eq_true rfl) (Nat.le_of_ble_eq_true rfl) (PW.mono h ?_)
        rintro _ σ3 ⟨v3, rfl, h⟩
        show PW none 172 87 [some (.ref 39), some (.int a), some (.int b), some (.int x3), some (.int x4), some (.int x5), some (.int v2), o7] [.int v3] σ3 _
        refine PW.ifc (t := 94) (ins_l hw_172 rfl) rfl (fun hc4 => ?_) (fun hc4 => ?_)
        · replace h := (if_pos (c_eqT hc4)).mp h
          refine PW.runs hw_172 rfl 3 (q := (94, [some (.ref 39), some (.int a), some (.int b), some (.int x3), some (.int x4), some (.int x5), some (.int v2), o7], [], σ3)) (q' := (99, [some (.ref 39), some (.int a), some (.int b), some (.int x3), some (.int x4), some (.int x5), some (.int v2), some (.int 0)], [.int 0], σ3)) rfl ?_
          refine PW.ifcT (t := 107) (ins_l hw_172 rfl) rfl (by decide) ?_
          refine PW.runs hw_172 rfl 3 (q := (107, [some (.ref 39), some (.int a), some (.int b), some (.int x3), some (.int x4), some (.int x5), some (.int v2), some (.int 0)], [], σ3)) (q' := (111, [some (.ref 39), some (.int a), some (.int b), some (.int x3), some (.int x4), some (.int x5), some (.int v2), some (.int 0)], [.int 0], σ3)) rfl ?_
          refine PW.ifcT (t := 119) (ins_l hw_172 rfl) rfl (by decide) ?_
          refine PW.runs hw_172 rfl 4 (q := (119, [some (.ref 39), some (.int a), some (.int b), some (.int x3), some (.int x4), some (.int x5), some (.int v2), some (.int 0)], [], σ3)) (q' := (34, [some (.ref 39), some (.int a), some (.int b), some (.int x3), some (.int x4), some (.int (x5 + 1)), some (.int v2), some (.int 0)], [], σ3)) rfl ?_
          exact h
        · replace h := (if_neg (c_eqF hc4)).mp h
          refine PW.runs hw_172 rfl 4 (q := (90, [some (.ref 39), some (.int a), some (.int b), some (.int x3), some (.int x4), some (.int x5), some (.int v2), o7], [], σ3)) (q' := (99, [some (.ref 39), some (.int a), some (.int b), some (.int x3), some (.int x4), some (.int x5), some (.int v2), some (.int 1)], [.int 1], σ3)) rfl ?_
          refine PW.ifcF (t := 107) (ins_l hw_172 rfl) rfl (by decide) ?_
          refine PW.runs hw_172 rfl 4 (q := (102, [some (.ref 39), some (.int a), some (.int b), some (.int x3), some (.int x4), some (.int x5), some (.int v2), some (.int 1)], [], σ3)) (q' := (111, [some (.ref 39), some (.int a), some (.int b), some (.int x5), some (.int x4), some (.int x5), some (.int v2), some (.int 1)], [.int 1], σ3)) rfl ?_
          refine PW.ifcF (t := 119) (ins_l hw_172 rfl) rfl (by decide) ?_
          refine PW.runs hw_172 rfl 5 (q := (114, [some (.ref 39), some (.int a), some (.int b), some (.int x5), some (.int x4), some (.int x5), some (.int v2), some (.int 1)], [], σ3)) (q' := (34, [some (.ref 39), some (.int a), some (.int b), some (.int x5), some (.int v2), some (.int (x5 + 1)), some (.int v2), some (.int 1)], [], σ3)) rfl ?_
          exact h
theorem hw_173 : pins.getD 173 [] = pi_173 := rfl
/-! MapDutyModel.couldBe.(II)Z -/
set_option maxRecDepth 20000 in
theorem w_173 {a : Int32} {b : Int32} {σ : St} {K : Int32 → St → Prop} (h : PI 173 5 [some (.ref 39), some (.int a), some (.int b), some (.int 1), some (.int 0)] [] σ K) : CI 173 [.ref 39, .int a, .int b] σ K := by
  show PW none 173 0 [some (.ref 39), some (.int a), some (.int b), none, none] [] σ _
  refine PW.runs hw_173 rfl 4 (q := (0, [some (.ref 39), some (.int a), some (.int b), none, none], [], σ)) (q' := (5, [some (.ref 39), some (.int a), some (.int b), some (.int 1), some (.int 0)], [], σ)) rfl ?_
  exact h
set_option maxRecDepth 20000 in
theorem w_173_5 {a : Int32} {b : Int32} {x3 : Int32} {x4 : Int32} {σ : St} {K : Int32 → St → Prop} (h : (if (σ 39 6) ≤ x4 then ((x3 = 0 ∨ x3 = 1) ∧ K x3 σ) else (if x3 = 0 then PI 173 5 [some (.ref 39), some (.int a), some (.int b), some (.int 0), some (.int (x4 + 1))] [] σ K else ((0 ≤ x4.toInt ∧ x4.toInt < 14) ∧ CI 111 [.int (a ^^^ (σ 46 (Int32.toNatClampNeg x4)))] σ (fun v1 σ1 => (if b < v1 then PI 173 5 [some (.ref 39), some (.int a), some (.int b), some (.int 0), some (.int (x4 + 1))] [] σ1 K else PI 173 5 [some (.ref 39), some (.int a), some (.int b), some (.int 1), some (.int (x4 + 1))] [] σ1 K)))))) : PI 173 5 [some (.ref 39), some (.int a), some (.int b), some (.int x3), some (.int x4)] [] σ K := by
  show PW none 173 5 [some (.ref 39), some (.int a), some (.int b), some (.int x3), some (.int x4)] [] σ _
  refine PW.runs hw_173 rfl 3 (q := (5, [some (.ref 39), some (.int a), some (.int b), some (.int x3), some (.int x4)], [], σ)) (q' := (11, [some (.ref 39), some (.int a), some (.int b), some (.int x3), some (.int x4)], [.int (σ 39 6), .int x4], σ)) rfl ?_
  refine PW.icm (t := 46) (ins_l hw_173 rfl) rfl (fun hc1 => ?_) (fun hc1 => ?_)
  · replace h := (if_pos (c_geT hc1)).mp h
    refine PW.runs hw_173 rfl 1 (q := (46, [some (.ref 39), some (.int a), some (.int b), some (.int x3), some (.int x4)], [], σ)) (q' := (47, [some (.ref 39), some (.int a), some (.int b), some (.int x3), some (.int x4)], [.int x3], σ)) rfl ?_
    exact PW.iret (ins_l hw_173 rfl) (Or.inr ⟨rfl, h.1⟩) ⟨_, rfl, h.2⟩
  · replace h := (if_neg (c_geF hc1)).mp h
    refine PW.runs hw_173 rfl 1 (q := (14, [some (.ref 39), some (.int a), some (.int b), some (.int x3), some (.int x4)], [], σ)) (q' := (15, [some (.ref 39), some (.int a), some (.int b), some (.int x3), some (.int x4)], [.int x3], σ)) rfl ?_
    refine PW.ifc (t := 38) (ins_l hw_173 rfl) rfl (fun hc2 => ?_) (fun hc2 => ?_)
    · replace h := (if_pos (c_eqT hc2)).mp h
      refine PW.runs hw_173 rfl 4 (q := (38, [some (.ref 39), some (.int a), some (.int b), some (.int x3), some (.int x4)], [], σ)) (q' := (5, [some (.ref 39), some (.int a), some (.int b), some (.int 0), some (.int (x4 + 1))], [], σ)) rfl ?_
      exact h
    · replace h := (if_neg (c_eqF hc2)).mp h
      refine PW.runs hw_173 rfl 4 (q := (18, [some (.ref 39), some (.int a), some (.int b), some (.int x3), some (.int x4)], [], σ)) (q' := (25, [some (.ref 39), some (.int a), some (.int b), some (.int x3), some (.int x4)], [.int x4, .ref 46, .int a], σ)) rfl ?_
      obtain ⟨hb1, h⟩ := h
      refine PW.iald (n := 14) (ins_l hw_173 rfl) rfl (idx_in hb1.1 hb1.2).1 ?_
      refine PW.runs hw_173 rfl 1 (q := (26, [some (.ref 39), some (.int a), some (.int b), some (.int x3), some (.int x4)], [.int (σ 46 (Int32.toNatClampNeg x4)), .int a], σ)) (q' := (27, [some (.ref 39), some (.int a), some (.int b), some (.int x3), some (.int x4)], [.int (a ^^^ (σ 46 (Int32.toNatClampNeg x4)))], σ)) rfl ?_
      refine PW.callS (vs := [.int (a ^^^ (σ 46 (Int32.toNatClampNeg x4)))]) (rest := []) (ins_l hw_173 rfl) rfl (Or.inl rfl) rfl (Nat.le_of_ble_eq_true rfl) (Nat.le_of_ble_eq_true rfl) (PW.mono h ?_)
      rintro _ σ1 ⟨v1, rfl, h⟩
      show PW none 173 30 [some (.ref 39), some (.int a), some (.int b), some (.int x3), some (.int x4)] [.int v1] σ1 _
      refine PW.runs hw_173 rfl 1 (q := (30, [some (.ref 39), some (.int a), some (.int b), some (.int x3), some (.int x4)], [.int v1], σ1)) (q' := (31, [some (.ref 39), some (.int a), some (.int b), some (.int x3), some (.int x4)], [.int b, .int v1], σ1)) rfl ?_
      refine PW.icm (t := 38) (ins_l hw_173 rfl) rfl (fun hc3 => ?_) (fun hc3 => ?_)
      · replace h := (if_pos (c_gtT hc3)).mp h
        refine PW.runs hw_173 rfl 4 (q := (38, [some (.ref 39), some (.int a), some (.int b), some (.int x3), some (.int x4)], [], σ1)) (q' := (5, [some (.ref 39), some (.int a), some (.int b), some (.int 0), some (.int (x4 + 1))], [], σ1)) rfl ?_
        exact h
      · replace h := (if_neg (c_gtF hc3)).mp h
        refine PW.runs hw_173 rfl 5 (q := (34, [some (.ref 39), some (.int a), some (.int b), some (.int x3), some (.int x4)], [], σ1)) (q' := (5, [some (.ref 39), some (.int a), some (.int b), some (.int 1), some (.int (x4 + 1))], [], σ1)) rfl ?_
        exact h
theorem hw_174 : pins.getD 174 [] = pi_174 := rfl
/-! MapDutyModel.manyWith.(II)I -/
set_option maxRecDepth 20000 in
theorem w_174 {a : Int32} {b : Int32} {σ : St} {K : Int32 → St → Prop} (h : PI 174 5 [some (.ref 39), some (.int a), some (.int b), some (.int 0), some (.int 0)] [] σ K) : CI 174 [.ref 39, .int a, .int b] σ K := by
  show PW none 174 0 [some (.ref 39), some (.int a), some (.int b), none, none] [] σ _
  refine PW.runs hw_174 rfl 4 (q := (0, [some (.ref 39), some (.int a), some (.int b), none, none], [], σ)) (q' := (5, [some (.ref 39), some (.int a), some (.int b), some (.int 0), some (.int 0)], [], σ)) rfl ?_
  exact h
set_option maxRecDepth 20000 in
theorem w_174_5 {a : Int32} {b : Int32} {x3 : Int32} {x4 : Int32} {σ : St} {K : Int32 → St → Prop} (h : (if (1 <<< ((σ 39 1) &&& 31)) ≤ x4 then K x3 σ else (if (x4 &&& b) = b then CI 173 [.ref 39, .int x4, .int a] σ (fun v1 σ1 => (if v1 = 0 then PI 174 5 [some (.ref 39), some (.int a), some (.int b), some (.int (x3 + 0)), some (.int (x4 + 1))] [] σ1 K else PI 174 5 [some (.ref 39), some (.int a), some (.int b), some (.int (x3 + 1)), some (.int (x4 + 1))] [] σ1 K)) else PI 174 5 [some (.ref 39), some (.int a), some (.int b), some (.int (x3 + 0)), some (.int (x4 + 1))] [] σ K))) : PI 174 5 [some (.ref 39), some (.int a), some (.int b), some (.int x3), some (.int x4)] [] σ K := by
  show PW none 174 5 [some (.ref 39), some (.int a), some (.int b), some (.int x3), some (.int x4)] [] σ _
  refine PW.runs hw_174 rfl 5 (q := (5, [some (.ref 39), some (.int a), some (.int b), some (.int x3), some (.int x4)], [], σ)) (q' := (13, [some (.ref 39), some (.int a), some (.int b), some (.int x3), some (.int x4)], [.int (1 <<< ((σ 39 1) &&& 31)), .int x4], σ)) rfl ?_
  refine PW.icm (t := 48) (ins_l hw_174 rfl) rfl (fun hc1 => ?_) (fun hc1 => ?_)
  · replace h := (if_pos (c_geT hc1)).mp h
    refine PW.runs hw_174 rfl 1 (q := (48, [some (.ref 39), some (.int a), some (.int b), some (.int x3), some (.int x4)], [], σ)) (q' := (49, [some (.ref 39), some (.int a), some (.int b), some (.int x3), some (.int x4)], [.int x3], σ)) rfl ?_
    exact PW.iret (ins_l hw_174 rfl) (Or.inl rfl) ⟨_, rfl, h⟩
  · replace h := (if_neg (c_geF hc1)).mp h
    refine PW.runs hw_174 rfl 5 (q := (16, [some (.ref 39), some (.int a), some (.int b), some (.int x3), some (.int x4)], [], σ)) (q' := (22, [some (.ref 39), some (.int a), some (.int b), some (.int x3), some (.int x4)], [.int b, .int (x4 &&& b), .int x3], σ)) rfl ?_
    refine PW.icm (t := 39) (ins_l hw_174 rfl) rfl (fun hc2 => ?_) (fun hc2 => ?_)
    · replace h := (if_neg (c_neT hc2)).mp h
      refine PW.runs hw_174 rfl 5 (q := (39, [some (.ref 39), some (.int a), some (.int b), some (.int x3), some (.int x4)], [.int x3], σ)) (q' := (5, [some (.ref 39), some (.int a), some (.int b), some (.int (x3 + 0)), some (.int (x4 + 1))], [], σ)) rfl ?_
      exact h
    · replace h := (if_pos (c_neF hc2)).mp h
      refine PW.runs hw_174 rfl 3 (q := (25, [some (.ref 39), some (.int a), some (.int b), some (.int x3), some (.int x4)], [.int x3], σ)) (q' := (29, [some (.ref 39), some (.int a), some (.int b), some (.int x3), some (.int x4)], [.int a, .int x4, .ref 39, .int x3], σ)) rfl ?_
      refine PW.callV (b := 39) (vs := [.int x4, .int a]) (rest := [.int x3]) (ins_l hw_174 rfl) rfl rfl rfl (Nat.le_of_ble_eq_true rfl) (Nat.le_of_ble_eq_true rfl) (PW.mono h ?_)
      rintro _ σ1 ⟨v1, rfl, h⟩
      show PW none 174 32 [some (.ref 39), some (.int a), some (.int b), some (.int x3), some (.int x4)] [.int v1, .int x3] σ1 _
      refine PW.ifc (t := 39) (ins_l hw_174 rfl) rfl (fun hc3 => ?_) (fun hc3 => ?_)
      · replace h := (if_pos (c_eqT hc3)).mp h
        refine PW.runs hw_174 rfl 5 (q := (39, [some (.ref 39), some (.int a), some (.int b), some (.int x3), some (.int x4)], [.int x3], σ1)) (q' := (5, [some (.ref 39), some (.int a), some (.int b), some (.int (x3 + 0)), some (.int (x4 + 1))], [], σ1)) rfl ?_
        exact h
      · replace h := (if_neg (c_eqF hc3)).mp h
        refine PW.runs hw_174 rfl 6 (q := (35, [some (.ref 39), some (.int a), some (.int b), some (.int x3), some (.int x4)], [.int x3], σ1)) (q' := (5, [some (.ref 39), some (.int a), some (.int b), some (.int (x3 + 1)), some (.int (x4 + 1))], [], σ1)) rfl ?_
        exact h
theorem hw_175 : pins.getD 175 [] = pi_175 := rfl
/-! MapDutyModel.inAll.(I)I -/
set_option maxRecDepth 20000 in
theorem w_175 {a : Int32} {σ : St} {K : Int32 → St → Prop} (h : PI 175 4 [some (.ref 39), some (.int a), some (.int (-1)), some (.int 0)] [] σ K) : CI 175 [.ref 39, .int a] σ K := by
  show PW none 175 0 [some (.ref 39), some (.int a), none, none] [] σ _
  refine PW.runs hw_175 rfl 4 (q := (0, [some (.ref 39), some (.int a), none, none], [], σ)) (q' := (4, [some (.ref 39), some (.int a), some (.int (-1)), some (.int 0)], [], σ)) rfl ?_
  exact h
set_option maxRecDepth 20000 in
theorem w_175_4 {a : Int32} {x2 : Int32} {x3 : Int32} {σ : St} {K : Int32 → St → Prop} (h : (if (1 <<< ((σ 39 1) &&& 31)) ≤ x3 then K x2 σ else CI 173 [.ref 39, .int x3, .int a] σ (fun v1 σ1 => (if v1 = 0 then PI 175 4 [some (.ref 39), some (.int a), some (.int x2), some (.int (x3 + 1))] [] σ1 K else (if 0 ≤ x2 then PI 175 4 [some (.ref 39), some (.int a), some (.int (x2 &&& x3)), some (.int (x3 + 1))] [] σ1 K else PI 175 4 [some (.ref 39), some (.int a), some (.int x3), some (.int (x3 + 1))] [] σ1 K))))) : PI 175 4 [some (.ref 39), some (.int a), some (.int x2), some (.int x3)] [] σ K := by
  show PW none 175 4 [some (.ref 39), some (.int a), some (.int x2), some (.int x3)] [] σ _
  refine PW.runs hw_175 rfl 5 (q := (4, [some (.ref 39), some (.int a), some (.int x2), some (.int x3)], [], σ)) (q' := (11, [some (.ref 39), some (.int a), some (.int x2), some (.int x3)], [.int (1 <<< ((σ 39 1) &&& 31)), .int x3], σ)) rfl ?_
  refine PW.icm (t := 45) (ins_l hw_175 rfl) rfl (fun hc1 => ?_) (fun hc1 => ?_)
  · replace h := (if_pos (c_geT hc1)).mp h
    refine PW.runs hw_175 rfl 1 (q := (45, [some (.ref 39), some (.int a), some (.int x2), some (.int x3)], [], σ)) (q' := (46, [some (.ref 39), some (.int a), some (.int x2), some (.int x3)], [.int x2], σ)) rfl ?_
    exact PW.iret (ins_l hw_175 rfl) (Or.inl rfl) ⟨_, rfl, h⟩
  · replace h := (if_neg (c_geF hc1)).mp h
    refine PW.runs hw_175 rfl 3 (q := (14, [some (.ref 39), some (.int a), some (.int x2), some (.int x3)], [], σ)) (q' := (17, [some (.ref 39), some (.int a), some (.int x2), some (.int x3)], [.int a, .int x3, .ref 39], σ)) rfl ?_
    refine PW.callV (b := 39) (vs := [.int x3, .int a]) (rest := []) (ins_l hw_175 rfl) rfl rfl rfl (Nat.le_of_ble_eq_true rfl) (Nat.le_of_ble_eq_true rfl) (PW.mono h ?_)
    rintro _ σ1 ⟨v1, rfl, h⟩
    show PW none 175 20 [some (.ref 39), some (.int a), some (.int x2), some (.int x3)] [.int v1] σ1 _
    refine PW.ifc (t := 37) (ins_l hw_175 rfl) rfl (fun hc2 => ?_) (fun hc2 => ?_)
    · replace h := (if_pos (c_eqT hc2)).mp h
      refine PW.runs hw_175 rfl 4 (q := (37, [some (.ref 39), some (.int a), some (.int x2), some (.int x3)], [], σ1)) (q' := (4, [some (.ref 39), some (.int a), some (.int x2), some (.int (x3 + 1))], [], σ1)) rfl ?_
      exact h
    · replace h := (if_neg (c_eqF hc2)).mp h
      refine PW.runs hw_175 rfl 1 (q := (23, [some (.ref 39), some (.int a), some (.int x2), some (.int x3)], [], σ1)) (q' := (24, [some (.ref 39), some (.int a), some (.int x2), some (.int x3)], [.int x2], σ1)) rfl ?_
      refine PW.ifc (t := 31) (ins_l hw_175 rfl) rfl (fun hc3 => ?_) (fun hc3 => ?_)
      · replace h := (if_pos (c_geT hc3)).mp h
        refine PW.runs hw_175 rfl 7 (q := (31, [some (.ref 39), some (.int a), some (.int x2), some (.int x3)], [], σ1)) (q' := (4, [some (.ref 39), some (.int a), some (.int (x2 &&& x3)), some (.int (x3 + 1))], [], σ1)) rfl ?_
        exact h
      · replace h := (if_neg (c_geF hc3)).mp h
        refine PW.runs hw_175 rfl 5 (q := (27, [some (.ref 39), some (.int a), some (.int x2), some (.int x3)], [], σ1)) (q' := (4, [some (.ref 39), some (.int a), some (.int x3), some (.int (x3 + 1))], [], σ1)) rfl ?_
        exact h
theorem hw_176 : pins.getD 176 [] = pi_176 := rfl
/-! MapDutyModel.lineToWalk.(I)I -/
set_option maxRecDepth 20000 in
theorem w_176 {a : Int32} {σ : St} {K : Int32 → St → Prop} (h : CI 174 [.ref 39, .int a, .int 0] σ (fun v1 σ1 => PI 176 15 [some (.ref 39), some (.int a), some (.int v1), some (.int (-1)), some (.int v1), some (.int 0), none, none] [] σ1 K)) : CI 176 [.ref 39, .int a] σ K := by
  show PW none 176 0 [some (.ref 39), some (.int a), none, none, none, none, none, none] [] σ _
  refine PW.runs hw_176 rfl 3 (q := (0, [some (.ref 39), some (.int a), none, none, none, none, none, none], [], σ)) (q' := (3, [some (.ref 39), some (.int a), none, none, none, none, none, none], [.int 0, .int a, .ref 39], σ)) rfl ?_
  refine PW.callV (b := 39) (vs := [.int a, .int 0]) (rest := []) (ins_l hw_176 rfl) rfl rfl rfl (Nat.le_of_ble_eq_true rfl) (Nat.le_of_ble_eq_true rfl) (PW.mono h ?_)
  rintro _ σ1 ⟨v1, rfl, h⟩
  show PW none 176 6 [some (.ref 39), some (.int a), none, none, none, none, none, none] [.int v1] σ1 _
  refine PW.runs hw_176 rfl 7 (q := (6, [some (.ref 39), some (.int a), none, none, none, none, none, none], [.int v1], σ1)) (q' := (15, [some (.ref 39), some (.int a), some (.int v1), some (.int (-1)), some (.int v1), some (.int 0), none, none], [], σ1)) rfl ?_
  exact h
set_option maxRecDepth 20000 in
theorem w_176_15 {a : Int32} {x2 : Int32} {x3 : Int32} {x4 : Int32} {x5 : Int32} {o6 : Option Value} {o7 : Option Value} {σ : St} {K : Int32 → St → Prop} (h : (if (σ 39 1) ≤ x5 then K x3 σ else CI 174 [.ref 39, .int a, .int (1 <<< (x5 &&& 31))] σ (fun v1 σ1 => (if v1 ≤ (x2 - v1) then (if x4 ≤ (x2 - v1) then PI 176 15 [some (.ref 39), some (.int a), some (.int x2), some (.int x3), some (.int x4), some (.int (x5 + 1)), some (.int v1), some (.int (x2 - v1))] [] σ1 K else PI 176 15 [some (.ref 39), some (.int a), some (.int x2), some (.int x5), some (.int (x2 - v1)), some (.int (x5 + 1)), some (.int v1), some (.int (x2 - v1))] [] σ1 K) else (if x4 ≤ v1 then PI 176 15 [some (.ref 39), some (.int a), some (.int x2), some (.int x3), some (.int x4), some (.int (x5 + 1)), some (.int v1), some (.int v1)] [] σ1 K else PI 176 15 [some (.ref 39), some (.int a), some (.int x2), some (.int x5), some (.int v1), some (.int (x5 + 1)), some (.int v1), some (.int v1)] [] σ1 K))))) : PI 176 15 [some (.ref 39), some (.int a), some (.int x2), some (.int x3), some (.int x4), some (.int x5), o6, o7] [] σ K := by
  show PW none 176 15 [some (.ref 39), some (.int a), some (.int x2), some (.int x3), some (.int x4), some (.int x5), o6, o7] [] σ _
  refine PW.runs hw_176 rfl 3 (q := (15, [some (.ref 39), some (.int a), some (.int x2), some (.int x3), some (.int x4), some (.int x5), o6, o7], [], σ)) (q' := (21, [some (.ref 39), some (.int a), some (.int x2), some (.int x3), some (.int x4), some (.int x5), o6, o7], [.int (σ 39 1), .int x5], σ)) rfl ?_
  refine PW.icm (t := 91) (ins_l hw_176 rfl) rfl (fun hc1 => ?_) (fun hc1 => ?_)
  · replace h := (if_pos (c_geT hc1)).mp h
    refine PW.runs hw_176 rfl 1 (q := (91, [some (.ref 39), some (.int a), some (.int x2), some (.int x3), some (.int x4), some (.int x5), o6, o7], [], σ)) (q' := (92, [some (.ref 39), some (.int a), some (.int x2), some (.int x3), some (.int x4), some (.int x5), o6, o7], [.int x3], σ)) rfl ?_
    exact PW.iret (ins_l hw_176 rfl) (Or.inl rfl) ⟨_, rfl, h⟩
  · replace h := (if_neg (c_geF hc1)).mp h
    refine PW.runs hw_176 rfl 5 (q := (24, [some (.ref 39), some (.int a), some (.int x2), some (.int x3), some (.int x4), some (.int x5), o6, o7], [], σ)) (q' := (30, [some (.ref 39), some (.int a), some (.int x2), some (.int x3), some (.int x4), some (.int x5), o6, o7], [.int (1 <<< (x5 &&& 31)), .int a, .ref 39], σ)) rfl ?_
    refine PW.callV (b := 39) (vs := [.int a, .int (1 <<< (x5 &&& 31))]) (rest := []) (ins_l hw_176 rfl) rfl rfl rfl (Nat.le_of_ble_eq_true rfl) (Nat.le_of_ble_eq_true rfl) (PW.mono h ?_)
    rintro _ σ1 ⟨v1, rfl, h⟩
    show PW none 176 33 [some (.ref 39), some (.int a), some (.int x2), some (.int x3), some (.int x4), some (.int x5), o6, o7] [.int v1] σ1 _
    refine PW.runs hw_176 rfl 5 (q := (33, [some (.ref 39), some (.int a), some (.int x2), some (.int x3), some (.int x4), some (.int x5), o6, o7], [.int v1], σ1)) (q' := (41, [some (.ref 39), some (.int a), some (.int x2), some (.int x3), some (.int x4), some (.int x5), some (.int v1), o7], [.int (x2 - v1), .int v1], σ1)) rfl ?_
    refine PW.icm (t := 49) (ins_l hw_176 rfl) rfl (fun hc2 => ?_) (fun hc2 => ?_)
    · replace h := (if_pos (c_leT hc2)).mp h
      refine PW.runs hw_176 rfl 6 (q := (49, [some (.ref 39), some (.int a), some (.int x2), some (.int x3), some (.int x4), some (.int x5), some (.int v1), o7], [], σ1)) (q' := (59, [some (.ref 39), some (.int a), some (.int x2), some (.int x3), some (.int x4), some (.int x5), some (.int v1), some (.int (x2 - v1))], [.int x4, .int (x2 - v1)], σ1)) rfl ?_
      refine PW.icm (t := 67) (ins_l hw_176 rfl) rfl (fun hc3 => ?_) (fun hc3 => ?_)
      · replace h := (if_pos (c_geT hc3)).mp h
        refine PW.runs hw_176 rfl 4 (q := (67, [some (.ref 39), some (.int a), some (.int x2), some (.int x3), some (.int x4), some (.int x5), some (.int v1), some (.int (x2 - v1))], [], σ1)) (q' := (73, [some (.ref 39), some (.int a), some (.int x2), some (.int x3), some (.int x4), some (.int x5), some (.int v1), some (.int (x2 - v1))], [.int x4, .int (x2 - v1)], σ1)) rfl ?_
        refine PW.icmT (t := 81) (ins_l hw_176 rfl) rfl hc3 ?_
        refine PW.runs hw_176 rfl 4 (q := (81, [some (.ref 39), some (.int a), some (.int x2), some (.int x3), some (.int x4), some (.int x5), some (.int v1), some (.int (x2 - v1))], [], σ1)) (q' := (15, [some (.ref 39), some (.int a), some (.int x2), some (.int x3), some (.int x4), some (.int (x5 + 1)), some (.int v1), some (.int (x2 - v1))], [], σ1)) rfl ?_
        exact h
      · replace h := (if_neg (c_geF hc3)).mp h
        refine PW.runs hw_176 rfl 5 (q := (62, [some (.ref 39), some (.int a), some (.int x2), some (.int x3), some (.int x4), some (.int x5), some (.int v1), some (.int (x2 - v1))], [], σ1)) (q' := (73, [some (.ref 39), some (.int a), some (.int x2), some (.int x5), some (.int x4), some (.int x5), some (.int v1), some (.int (x2 - v1))], [.int x4, .int (x2 - v1)], σ1)) rfl ?_
        refine PW.icmF (t := 81) (ins_l hw_176 rfl) rfl hc3 ?_
        refine PW.runs hw_176 rfl 5 (q := (76, [some (.ref 39), some (.int a), some (.int x2), some (.int x5), some (.int x4), some (.int x5), some (.int v1), some (.int (x2 - v1))], [], σ1)) (q' := (15, [some (.ref 39), some (.int a), some (.int x2), some (.int x5), some (.int (x2 - v1)), some (.int (x5 + 1)), some (.int v1), some (.int (x2 - v1))], [], σ1)) rfl ?_
        exact h
    · replace h := (if_neg (c_leF hc2)).mp h
      refine PW.runs hw_176 rfl 5 (q := (44, [some (.ref 39), some (.int a), some (.int x2), some (.int x3), some (.int x4), some (.int x5), some (.int v1), o7], [], σ1)) (q' := (59, [some (.ref 39), some (.int a), some (.int x2), some (.int x3), some (.int x4), some (.int x5), some (.int v1), some (.int v1)], [.int x4, .int v1], σ1)) rfl ?_
      refine PW.icm (t := 67) (ins_l hw_176 rfl) rfl (fun hc3 => ?_) (fun hc3 => ?_)
      · replace h := (if_pos (c_geT hc3)).mp h
        refine PW.runs hw_176 rfl 4 (q := (67, [some (.ref 39), some (.int a), some (.int x2), some (.int x3), some (.int x4), some (.int x5), some (.int v1), some (.int v1)], [], σ1)) (q' := (73, [some (.ref 39), some (.int a), some (.int x2), some (.int x3), some (.int x4), some (.int x5), some (.int v1), some (.int v1)], [.int x4, .int v1], σ1)) rfl ?_
        refine PW.icmT (t := 81) (ins_l hw_176 rfl) rfl hc3 ?_
        refine PW.runs hw_176 rfl 4 (q := (81, [some (.ref 39), some (.int a), some (.int x2), some (.int x3), some (.int x4), some (.int x5), some (.int v1), some (.int v1)], [], σ1)) (q' := (15, [some (.ref 39), some (.int a), some (.int x2), some (.int x3), some (.int x4), some (.int (x5 + 1)), some (.int v1), some (.int v1)], [], σ1)) rfl ?_
        exact h
      · replace h := (if_neg (c_geF hc3)).mp h
        refine PW.runs hw_176 rfl 5 (q := (62, [some (.ref 39), some (.int a), some (.int x2), some (.int x3), some (.int x4), some (.int x5), some (.int v1), some (.int v1)], [], σ1)) (q' := (73, [some (.ref 39), some (.int a), some (.int x2), some (.int x5), some (.int x4), some (.int x5), some (.int v1), some (.int v1)], [.int x4, .int v1], σ1)) rfl ?_
        refine PW.icmF (t := 81) (ins_l hw_176 rfl) rfl hc3 ?_
        refine PW.runs hw_176 rfl 5 (q := (76, [some (.ref 39), some (.int a), some (.int x2), some (.int x5), some (.int x4), some (.int x5), some (.int v1), some (.int v1)], [], σ1)) (q' := (15, [some (.ref 39), some (.int a), some (.int x2), some (.int x5), some (.int v1), some (.int (x5 + 1)), some (.int v1), some (.int v1)], [], σ1)) rfl ?_
        exact h
theorem hw_177 : pins.getD 177 [] = pi_177 := rfl
/-! MapDutyModel.lands.(II)I -/
set_option maxRecDepth 20000 in
theorem w_177 {a : Int32} {b : Int32} {σ : St} {K : Int32 → St → Prop} (h : CI 109 [.long (Int32.toInt64 a), .long 0, .long 12] σ (fun v1 σ1 => (if v1 = 0 then K (-1000000002) σ1 else CI 109 [.long (Int32.toInt64 b), .long 0, .long 2] σ1 (fun v2 σ2 => (if v2 = 0 then K (-1000000002) σ2 else (if b = 0 then CI 174 [.ref 39, .int a, .int 0] σ2 (fun v5 σ5 => K v5 σ5) else (if b = 1 then CI 175 [.ref 39, .int a] σ2 (fun v4 σ4 => K v4 σ4) else CI 176 [.ref 39, .int a] σ2 (fun v3 σ3 => K v3 σ3)))))))) : CI 177 [.ref 39, .int a, .int b] σ K := by
  show PW none 177 0 [some (.ref 39), some (.int a), some (.int b)] [] σ _
  refine PW.runs hw_177 rfl 4 (q := (0, [some (.ref 39), some (.int a), some (.int b)], [], σ)) (q' := (6, [some (.ref 39), some (.int a), some (.int b)], [.long 12, .long 0, .long (Int32.toInt64 a)], σ)) rfl ?_
  refine PW.callS (vs := [.long (Int32.toInt64 a), .long 0, .long 12]) (rest := []) (ins_l hw_177 rfl) rfl (Or.inl rfl) rfl (Nat.le_of_ble_eq_true rfl) (Nat.le_of_ble_eq_true rfl) (PW.mono h ?_)
  rintro _ σ1 ⟨v1, rfl, h⟩
  show PW none 177 9 [some (.ref 39), some (.int a), some (.int b)] [.int v1] σ1 _
  refine PW.ifc (t := 24) (ins_l hw_177 rfl) rfl (fun hc1 => ?_) (fun hc1 => ?_)
  · replace h := (if_pos (c_eqT hc1)).mp h
    refine PW.runs hw_177 rfl 1 (q := (24, [some (.ref 39), some (.int a), some (.int b)], [], σ1)) (q' := (26, [some (.ref 39), some (.int a), some (.int b)], [.int (-1000000002)], σ1)) rfl ?_
    exact PW.iret (ins_l hw_177 rfl) (Or.inl rfl) ⟨_, rfl, h⟩
  · replace h := (if_neg (c_eqF hc1)).mp h
    refine PW.runs hw_177 rfl 4 (q := (12, [some (.ref 39), some (.int a), some (.int b)], [], σ1)) (q' := (18, [some (.ref 39), some (.int a), some (.int b)], [.long 2, .long 0, .long (Int32.toInt64 b)], σ1)) rfl ?_
    refine PW.callS (vs := [.long (Int32.toInt64 b), .long 0, .long 2]) (rest := []) (ins_l hw_177 rfl) rfl (Or.inl rfl) rfl (Nat.le_of_ble_eq_true rfl) (Nat.le_of_ble_eq_true rfl) (PW.mono h ?_)
    rintro _ σ2 ⟨v2, rfl, h⟩
    show PW none 177 21 [some (.ref 39), some (.int a), some (.int b)] [.int v2] σ2 _
    refine PW.ifc (t := 27) (ins_l hw_177 rfl) rfl (fun hc2 => ?_) (fun hc2 => ?_)
    · replace h := (if_neg (c_neT hc2)).mp h
      refine PW.runs hw_177 rfl 1 (q := (27, [some (.ref 39), some (.int a), some (.int b)], [], σ2)) (q' := (28, [some (.ref 39), some (.int a), some (.int b)], [.int b], σ2)) rfl ?_
      refine PW.ifc (t := 40) (ins_l hw_177 rfl) rfl (fun hc3 => ?_) (fun hc3 => ?_)
      · replace h := (if_neg (c_neT hc3)).mp h
        refine PW.runs hw_177 rfl 2 (q := (40, [some (.ref 39), some (.int a), some (.int b)], [], σ2)) (q' := (42, [some (.ref 39), some (.int a), some (.int b)], [.int 1, .int b], σ2)) rfl ?_
        refine PW.icm (t := 53) (ins_l hw_177 rfl) rfl (fun hc4 => ?_) (fun hc4 => ?_)
        · replace h := (if_neg (c_neT hc4)).mp h
          refine PW.runs hw_177 rfl 2 (q := (53, [some (.ref 39), some (.int a), some (.int b)], [], σ2)) (q' := (55, [some (.ref 39), some (.int a), some (.int b)], [.int a, .ref 39], σ2)) rfl ?_
          refine PW.callV (b := 39) (vs := [.int a]) (rest := []) (ins_l hw_177 rfl) rfl rfl rfl (Nat.le_of_ble_eq_true rfl) (Nat.le_of_ble_eq_true rfl) (PW.mono h ?_)
          rintro _ σ3 ⟨v3, rfl, h⟩
          show PW none 177 58 [some (.ref 39), some (.int a), some (.int b)] [.int v3] σ3 _
          exact PW.iret (ins_l hw_177 rfl) (Or.inl rfl) ⟨_, rfl, h⟩
        · replace h := (if_pos (c_neF hc4)).mp h
          refine PW.runs hw_177 rfl 2 (q := (45, [some (.ref 39), some (.int a), some (.int b)], [], σ2)) (q' := (47, [some (.ref 39), some (.int a), some (.int b)], [.int a, .ref 39], σ2)) rfl ?_
          refine PW.callV (b := 39) (vs := [.int a]) (rest := []) (ins_l hw_177 rfl) rfl rfl rfl (Nat.le_of_ble_eq_true rfl) (Nat.le_of_ble_eq_true rfl) (PW.mono h ?_)
          rintro _ σ4 ⟨v4, rfl, h⟩
          show PW none 177 50 [some (.ref 39), some (.int a), some (.int b)] [.int v4] σ4 _
          refine PW.runs hw_177 rfl 1 (q := (50, [some (.ref 39), some (.int a), some (.int b)], [.int v4], σ4)) (q' := (58, [some (.ref 39), some (.int a), some (.int b)], [.int v4], σ4)) rfl ?_
          exact PW.iret (ins_l hw_177 rfl) (Or.inl rfl) ⟨_, rfl, h⟩
      · replace h := (if_pos (c_neF hc3)).mp h
        refine PW.runs hw_177 rfl 3 (q := (31, [some (.ref 39), some (.int a), some (.int b)], [], σ2)) (q' := (34, [some (.ref 39), some (.int a), some (.int b)], [.int 0, .int a, .ref 39], σ2)) rfl ?_
        refine PW.callV (b := 39) (vs := [.int a, .int 0]) (rest := []) (ins_l hw_177 rfl) rfl rfl rfl (Nat.le_of_ble_eq_true rfl) (Nat.le_of_ble_eq_true rfl) (PW.mono h ?_)
        rintro _ σ5 ⟨v5, rfl, h⟩
        show PW none 177 37 [some (.ref 39), some (.int a), some (.int b)] [.int v5] σ5 _
        refine PW.runs hw_177 rfl 1 (q := (37, [some (.ref 39), some (.int a), some (.int b)], [.int v5], σ5)) (q' := (58, [some (.ref 39), some (.int a), some (.int b)], [.int v5], σ5)) rfl ?_
        exact PW.iret (ins_l hw_177 rfl) (Or.inl rfl) ⟨_, rfl, h⟩
    · replace h := (if_pos (c_neF hc2)).mp h
      refine PW.runs hw_177 rfl 1 (q := (24, [some (.ref 39), some (.int a), some (.int b)], [], σ2)) (q' := (26, [some (.ref 39), some (.int a), some (.int b)], [.int (-1000000002)], σ2)) rfl ?_
      exact PW.iret (ins_l hw_177 rfl) (Or.inl rfl) ⟨_, rfl, h⟩
