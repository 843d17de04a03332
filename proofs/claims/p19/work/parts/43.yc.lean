/-! code: duty, fines, the book -/
/-! MapDuty$Plan.worthOf.(I)I -/
set_option maxRecDepth 20000 in
theorem w_18_11 {a : Int32} {σ : St} {K : Int32 → St → Prop} (h : (if a < 0 then K 0 σ else (if 12 ≤ a then K 0 σ else ((0 ≤ a.toInt ∧ a.toInt < 12) ∧ K (σ 14 (Int32.toNatClampNeg a)) σ)))) : CI 18 [.ref 11, .int a] σ K := by
  show PW none 18 0 [some (.ref 11), some (.int a)] [] σ _
  refine PW.runs hw_18 rfl 1 (q := (0, [some (.ref 11), some (.int a)], [], σ)) (q' := (1, [some (.ref 11), some (.int a)], [.int a], σ)) rfl ?_
  refine PW.ifc (t := 19) (ins_l hw_18 rfl) rfl (fun hc1 => ?_) (fun hc1 => ?_)
  · replace h := (if_pos (c_ltT hc1)).mp h
    refine PW.runs hw_18 rfl 1 (q := (19, [some (.ref 11), some (.int a)], [], σ)) (q' := (20, [some (.ref 11), some (.int a)], [.int 0], σ)) rfl ?_
    exact PW.iret (ins_l hw_18 rfl) (Or.inl rfl) ⟨_, rfl, h⟩
  · replace h := (if_neg (c_ltF hc1)).mp h
    refine PW.runs hw_18 rfl 2 (q := (4, [some (.ref 11), some (.int a)], [], σ)) (q' := (7, [some (.ref 11), some (.int a)], [.int 12, .int a], σ)) rfl ?_
    refine PW.icm (t := 19) (ins_l hw_18 rfl) rfl (fun hc2 => ?_) (fun hc2 => ?_)
    · replace h := (if_pos (c_geT hc2)).mp h
      refine PW.runs hw_18 rfl 1 (q := (19, [some (.ref 11), some (.int a)], [], σ)) (q' := (20, [some (.ref 11), some (.int a)], [.int 0], σ)) rfl ?_
      exact PW.iret (ins_l hw_18 rfl) (Or.inl rfl) ⟨_, rfl, h⟩
    · replace h := (if_neg (c_geF hc2)).mp h
      refine PW.runs hw_18 rfl 3 (q := (10, [some (.ref 11), some (.int a)], [], σ)) (q' := (15, [some (.ref 11), some (.int a)], [.int a, .ref 14], σ)) rfl ?_
      obtain ⟨hb1, h⟩ := h
      refine PW.iald (n := 12) (ins_l hw_18 rfl) rfl (idx_in hb1.1 hb1.2).1 ?_
      refine PW.runs hw_18 rfl 1 (q := (16, [some (.ref 11), some (.int a)], [.int (σ 14 (Int32.toNatClampNeg a))], σ)) (q' := (20, [some (.ref 11), some (.int a)], [.int (σ 14 (Int32.toNatClampNeg a))], σ)) rfl ?_
      exact PW.iret (ins_l hw_18 rfl) (Or.inl rfl) ⟨_, rfl, h⟩
theorem hw_19 : pins.getD 19 [] = pi_19 := rfl
/-! MapDuty$Plan.lineDuty.(II)I -/
set_option maxRecDepth 20000 in
theorem w_19 {a : Int32} {b : Int32} {σ : St} {K : Int32 → St → Prop} (h : CI 18 [.ref 11, .int b] σ (fun v1 σ1 => (if a = 1 then K (2 * v1) σ1 else (if a = 2 then K (v1 / 2) σ1 else (if a = 3 then K (if v1 < 1 then v1 else 1) σ1 else K v1 σ1))))) : CI 19 [.ref 11, .int a, .int b] σ K := by
  show PW none 19 0 [some (.ref 11), some (.int a), some (.int b), none] [] σ _
  refine PW.runs hw_19 rfl 2 (q := (0, [some (.ref 11), some (.int a), some (.int b), none], [], σ)) (q' := (2, [some (.ref 11), some (.int a), some (.int b), none], [.int b, .ref 11], σ)) rfl ?_
  refine PW.callV (b := 11) (vs := [.int b]) (rest := []) (ins_l hw_19 rfl) rfl rfl rfl (Nat.le_of_ble_eq_true rfl) (Nat.le_of_ble_eq_true rfl) (PW.mono h ?_)
  rintro _ σ1 ⟨v1, rfl, h⟩
  show PW none 19 5 [some (.ref 11), some (.int a), some (.int b), none] [.int v1] σ1 _
  refine PW.runs hw_19 rfl 2 (q := (5, [some (.ref 11), some (.int a), some (.int b), none], [.int v1], σ1)) (q' := (7, [some (.ref 11), some (.int a), some (.int b), some (.int v1)], [.int a], σ1)) rfl ?_
  by_cases c0 : a = 1
  · replace h := (if_pos c0).mp h
    refine PW.tswK (k := 0) (t := 32) (ins_l hw_19 rfl) c0 (by decide) (by decide) rfl rfl ?_
    refine PW.runs hw_19 rfl 3 (q := (32, [some (.ref 11), some (.int a), some (.int b), some (.int v1)], [], σ1)) (q' := (35, [some (.ref 11), some (.int a), some (.int b), some (.int v1)], [.int (2 * v1)], σ1)) rfl ?_
    exact PW.iret (ins_l hw_19 rfl) (Or.inl rfl) ⟨_, rfl, h⟩
  replace h := (if_neg c0).mp h
  by_cases c1 : a = 2
  · replace h := (if_pos c1).mp h
    refine PW.tswK (k := 1) (t := 36) (ins_l hw_19 rfl) c1 (by decide) (by decide) rfl rfl ?_
    refine PW.runs hw_19 rfl 2 (q := (36, [some (.ref 11), some (.int a), some (.int b), some (.int v1)], [], σ1)) (q' := (38, [some (.ref 11), some (.int a), some (.int b), some (.int v1)], [.int 2, .int v1], σ1)) rfl ?_
    refine PW.step (q := (39, [some (.ref 11), some (.int a), some (.int b), some (.int v1)], [.int (v1 / 2)], σ1)) (ins_l hw_19 rfl) rfl (by simp only [stp, p2, q2]; rw [if_neg (by decide)]) ?_
    exact PW.iret (ins_l hw_19 rfl) (Or.inl rfl) ⟨_, rfl, h⟩
  replace h := (if_neg c1).mp h
  by_cases c2 : a = 3
  · replace h := (if_pos c2).mp h
    refine PW.tswK (k := 2) (t := 40) (ins_l hw_19 rfl) c2 (by decide) (by decide) rfl rfl ?_
    refine PW.runs hw_19 rfl 2 (q := (40, [some (.ref 11), some (.int a), some (.int b), some (.int v1)], [], σ1)) (q' := (42, [some (.ref 11), some (.int a), some (.int b), some (.int v1)], [.int v1, .int 1], σ1)) rfl ?_
    refine PW.min (q := (45, [some (.ref 11), some (.int a), some (.int b), some (.int v1)], [.int (if v1 < 1 then v1 else 1)], σ1)) (ins_l hw_19 rfl) rfl rfl ?_
    exact PW.iret (ins_l hw_19 rfl) (Or.inl rfl) ⟨_, rfl, h⟩
  replace h := (if_neg c2).mp h
  have hD : PI 19 46 [some (.ref 11), some (.int a), some (.int b), some (.int v1)] [] σ1 K := by
    refine PW.runs hw_19 rfl 1 (q := (46, [some (.ref 11), some (.int a), some (.int b), some (.int v1)], [], σ1)) (q' := (47, [some (.ref 11), some (.int a), some (.int b), some (.int v1)], [.int v1], σ1)) rfl ?_
    exact PW.iret (ins_l hw_19 rfl) (Or.inl rfl) ⟨_, rfl, h⟩
  refine PW.tswD (t := 46) (ins_l hw_19 rfl) ?_ rfl hD
  have zc0 := tne c0 (k := 1) rfl
  have zc1 := tne c1 (k := 2) rfl
  have zc2 := tne c2 (k := 3) rfl
  omega
theorem hw_20 : pins.getD 20 [] = pi_20 := rfl
/-! MapDuty$Plan.dutyAs.(III)I -/
set_option maxRecDepth 20000 in
theorem w_20 {a : Int32} {b : Int32} {c : Int32} {σ : St} {K : Int32 → St → Prop} (h : PI 20 6 [some (.ref 11), some (.int a), some (.int b), some (.int c), some (.int 0), some (.int 0), none] [] σ K) : CI 20 [.ref 11, .int a, .int b, .int c] σ K := by
  show PW none 20 0 [some (.ref 11), some (.int a), some (.int b), some (.int c), none, none, none] [] σ _
  refine PW.runs hw_20 rfl 4 (q := (0, [some (.ref 11), some (.int a), some (.int b), some (.int c), none, none, none], [], σ)) (q' := (6, [some (.ref 11), some (.int a), some (.int b), some (.int c), some (.int 0), some (.int 0), none], [], σ)) rfl ?_
  exact h
set_option maxRecDepth 20000 in
theorem w_20_6 {a : Int32} {b : Int32} {c : Int32} {x4 : Int32} {x5 : Int32} {o6 : Option Value} {σ : St} {K : Int32 → St → Prop} (h : (if (σ 11 1) ≤ x5 then K x4 σ else CI 92 [.int b, .int x5] σ (fun v1 σ1 => (if v1 = 1 then CI 92 [.int c, .int x5] σ1 (fun v3 σ3 => (if v3 = 1 then CI 19 [.ref 11, .int a, .int x5] σ3 (fun v5 σ5 => PI 20 6 [some (.ref 11), some (.int a), some (.int b), some (.int c), some (.int (x4 + v5)), some (.int (x5 + 1)), some (.int v1)] [] σ5 K) else (if a = 4 then (if v1 = 0 then CI 92 [.int c, .int x5] σ3 (fun v4 σ4 => (if v4 = 0 then ((0 ≤ x5.toInt ∧ x5.toInt < 12) ∧ PI 20 6 [some (.ref 11), some (.int a), some (.int b), some (.int c), some (.int (x4 + ((σ4 14 (Int32.toNatClampNeg x5)) / 3))), some (.int (x5 + 1)), some (.int v1)] [] σ4 K) else PI 20 6 [some (.ref 11), some (.int a), some (.int b), some (.int c), some (.int x4), some (.int (x5 + 1)), some (.int v1)] [] σ4 K)) else PI 20 6 [some (.ref 11), some (.int a), some (.int b), some (.int c), some (.int x4), some (.int (x5 + 1)), some (.int v1)] [] σ3 K) else PI 20 6 [some (.ref 11), some (.int a), some (.int b), some (.int c), some (.int x4), some (.int (x5 + 1)), some (.int v1)] [] σ3 K))) else (if a = 4 then (if v1 = 0 then CI 92 [.int c, .int x5] σ1 (fun v2 σ2 => (if v2 = 0 then ((0 ≤ x5.toInt ∧ x5.toInt < 12) ∧ PI 20 6 [some (.ref 11), some (.int a), some (.int b), some (.int c), some (.int (x4 + ((σ2 14 (Int32.toNatClampNeg x5)) / 3))), some (.int (x5 + 1)), some (.int v1)] [] σ2 K) else PI 20 6 [some (.ref 11), some (.int a), some (.int b), some (.int c), some (.int x4), some (.int (x5 + 1)), some (.int v1)] [] σ2 K)) else PI 20 6 [some (.ref 11), some (.int a), some (.int b), some (.int c), some (.int x4), some (.int (x5 + 1)), some (.int v1)] [] σ1 K) else PI 20 6 [some (.ref 11), some (.int a), some (.int b), some (.int c), some (.int x4), some (.int (x5 + 1)), some (.int v1)] [] σ1 K))))) : PI 20 6 [some (.ref 11), some (.int a), some (.int b), some (.int c), some (.int x4), some (.int x5), o6] [] σ K := by
  show PW none 20 6 [some (.ref 11), some (.int a), some (.int b), some (.int c), some (.int x4), some (.int x5), o6] [] σ _
  refine PW.runs hw_20 rfl 3 (q := (6, [some (.ref 11), some (.int a), some (.int b), some (.int c), some (.int x4), some (.int x5), o6], [], σ)) (q' := (12, [some (.ref 11), some (.int a), some (.int b), some (.int c), some (.int x4), some (.int x5), o6], [.int (σ 11 1), .int x5], σ)) rfl ?_
  refine PW.icm (t := 93) (ins_l hw_20 rfl) rfl (fun hc1 => ?_) (fun hc1 => ?_)
  · replace h := (if_pos (c_geT hc1)).mp h
    refine PW.runs hw_20 rfl 1 (q := (93, [some (.ref 11), some (.int a), some (.int b), some (.int c), some (.int x4), some (.int x5), o6], [], σ)) (q' := (95, [some (.ref 11), some (.int a), some (.int b), some (.int c), some (.int x4), some (.int x5), o6], [.int x4], σ)) rfl ?_
    exact PW.iret (ins_l hw_20 rfl) (Or.inl rfl) ⟨_, rfl, h⟩
  · replace h := (if_neg (c_geF hc1)).mp h
    refine PW.runs hw_20 rfl 2 (q := (15, [some (.ref 11), some (.int a), some (.int b), some (.int c), some (.int x4), some (.int x5), o6], [], σ)) (q' := (18, [some (.ref 11), some (.int a), some (.int b), some (.int c), some (.int x4), some (.int x5), o6], [.int x5, .int b], σ)) rfl ?_
    refine PW.callS (vs := [.int b, .int x5]) (rest := []) (ins_l hw_20 rfl) rfl (Or.inr rfl) rfl (Nat.le_of_ble_eq_true rfl) (Nat.le_of_ble_eq_true rfl) (PW.mono h ?_)
    rintro _ σ1 ⟨v1, rfl, h⟩
    show PW none 20 21 [some (.ref 11), some (.int a), some (.int b), some (.int c), some (.int x4), some (.int x5), o6] [.int v1] σ1 _
    refine PW.runs hw_20 rfl 3 (q := (21, [some (.ref 11), some (.int a), some (.int b), some (.int c), some (.int x4), some (.int x5), o6], [.int v1], σ1)) (q' := (26, [some (.ref 11), some (.int a), some (.int b), some (.int c), some (.int x4), some (.int x5), some (.int v1)], [.int 1, .int v1], σ1)) rfl ?_
    refine PW.icm (t := 54) (ins_l hw_20 rfl) rfl (fun hc2 => ?_) (fun hc2 => ?_)
    · replace h := (if_neg (c_neT hc2)).mp h
      refine PW.runs hw_20 rfl 2 (q := (54, [some (.ref 11), some (.int a), some (.int b), some (.int c), some (.int x4), some (.int x5), some (.int v1)], [], σ1)) (q' := (56, [some (.ref 11), some (.int a), some (.int b), some (.int c), some (.int x4), some (.int x5), some (.int v1)], [.int 4, .int a], σ1)) rfl ?_
      refine PW.icm (t := 87) (ins_l hw_20 rfl) rfl (fun hc3 => ?_) (fun hc3 => ?_)
      · replace h := (if_neg (c_neT hc3)).mp h
        refine PW.runs hw_20 rfl 2 (q := (87, [some (.ref 11), some (.int a), some (.int b), some (.int c), some (.int x4), some (.int x5), some (.int v1)], [], σ1)) (q' := (6, [some (.ref 11), some (.int a), some (.int b), some (.int c), some (.int x4), some (.int (x5 + 1)), some (.int v1)], [], σ1)) rfl ?_
        exact h
      · replace h := (if_pos (c_neF hc3)).mp h
        refine PW.runs hw_20 rfl 1 (q := (59, [some (.ref 11), some (.int a), some (.int b), some (.int c), some (.int x4), some (.int x5), some (.int v1)], [], σ1)) (q' := (61, [some (.ref 11), some (.int a), some (.int b), some (.int c), some (.int x4), some (.int x5), some (.int v1)], [.int v1], σ1)) rfl ?_
        refine PW.ifc (t := 87) (ins_l hw_20 rfl) rfl (fun hc4 => ?_) (fun hc4 => ?_)
        · replace h := (if_neg (c_neT hc4)).mp h
          refine PW.runs hw_20 rfl 2 (q := (87, [some (.ref 11), some (.int a), some (.int b), some (.int c), some (.int x4), some (.int x5), some (.int v1)], [], σ1)) (q' := (6, [some (.ref 11), some (.int a), some (.int b), some (.int c), some (.int x4), some (.int (x5 + 1)), some (.int v1)], [], σ1)) rfl ?_
          exact h
        · replace h := (if_pos (c_neF hc4)).mp h
          refine PW.runs hw_20 rfl 2 (q := (64, [some (.ref 11), some (.int a), some (.int b), some (.int c), some (.int x4), some (.int x5), some (.int v1)], [], σ1)) (q' := (67, [some (.ref 11), some (.int a), some (.int b), some (.int c), some (.int x4), some (.int x5), some (.int v1)], [.int x5, .int c], σ1)) rfl ?_
          refine PW.callS (vs := [.int c, .int x5]) (rest := []) (ins_l hw_20 rfl) rfl (Or.inr rfl) rfl (Nat.le_of_ble_eq_true rfl) (Nat.le_of_ble_eq_true rfl) (PW.mono h ?_)
          rintro _ σ2 ⟨v2, rfl, h⟩
          show PW none 20 70 [some (.ref 11), some (.int a), some (.int b), some (.int c), some (.int x4), some (.int x5), some (.int v1)] [.int v2] σ2 _
          refine PW.ifc (t := 87) (ins_l hw_20 rfl) rfl (fun hc5 => ?_) (fun hc5 => ?_)
          · replace h := (if_neg (c_neT hc5)).mp h
            refine PW.runs hw_20 rfl 2 (q := (87, [some (.ref 11), some (.int a), some (.int b), some (.int c), some (.int x4), some (.int x5), some (.int v1)], [], σ2)) (q' := (6, [some (.ref 11), some (.int a), some (.int b), some (.int c), some (.int x4), some (.int (x5 + 1)), some (.int v1)], [], σ2)) rfl ?_
            exact h
          · replace h := (if_pos (c_neF hc5)).mp h
            refine PW.runs hw_20 rfl 4 (q := (73, [some (.ref 11), some (.int a), some (.int b), some (.int c), some (.int x4), some (.int x5), some (.int v1)], [], σ2)) (q' := (81, [some (.ref 11), some (.int a), some (.int b), some (.int c), some (.int x4), some (.int x5), some (.int v1)], [.int x5, .ref 14, .int x4], σ2)) rfl ?_
            obtain ⟨hb1, h⟩ := h
            refine PW.iald (n := 12) (ins_l hw_20 rfl) rfl (idx_in hb1.1 hb1.2).1 ?_
            refine PW.runs hw_20 rfl 1 (q := (82, [some (.ref 11), some (.int a), some (.int b), some (.int c), some (.int x4), some (.int x5), some (.int v1)], [.int (σ2 14 (Int32.toNatClampNeg x5)), .int x4], σ2)) (q' := (83, [some (.ref 11), some (.int a), some (.int b), some (.int c), some (.int x4), some (.int x5), some (.int v1)], [.int 3, .int (σ2 14 (Int32.toNatClampNeg x5)), .int x4], σ2)) rfl ?_
            refine PW.step (q := (84, [some (.ref 11), some (.int a), some (.int b), some (.int c), some (.int x4), some (.int x5), some (.int v1)], [.int ((σ2 14 (Int32.toNatClampNeg x5)) / 3), .int x4], σ2)) (ins_l hw_20 rfl) rfl (by simp only [stp, p2, q2]; rw [if_neg (by decide)]) ?_
            refine PW.runs hw_20 rfl 4 (q := (84, [some (.ref 11), some (.int a), some (.int b), some (.int c), some (.int x4), some (.int x5), some (.int v1)], [.int ((σ2 14 (Int32.toNatClampNeg x5)) / 3), .int x4], σ2)) (q' := (6, [some (.ref 11), some (.int a), some (.int b), some (.int c), some (.int (x4 + ((σ2 14 (Int32.toNatClampNeg x5)) / 3))), some (.int (x5 + 1)), some (.int v1)], [], σ2)) rfl ?_
            exact h
    · replace h := (if_pos (c_neF hc2)).mp h
      refine PW.runs hw_20 rfl 2 (q := (29, [some (.ref 11), some (.int a), some (.int b), some (.int c), some (.int x4), some (.int x5), some (.int v1)], [], σ1)) (q' := (32, [some (.ref 11), some (.int a), some (.int b), some (.int c), some (.int x4), some (.int x5), some (.int v1)], [.int x5, .int c], σ1)) rfl ?_
      refine PW.callS (vs := [.int c, .int x5]) (rest := []) (ins_l hw_20 rfl) rfl (Or.inr rfl) rfl (Nat.le_of_ble_eq_true rfl) (Nat.le_of_ble_eq_true rfl) (PW.mono h ?_)
      rintro _ σ3 ⟨v3, rfl, h⟩
      show PW none 20 35 [some (.ref 11), some (.int a), some (.int b), some (.int c), some (.int x4), some (.int x5), some (.int v1)] [.int v3] σ3 _
      refine PW.runs hw_20 rfl 1 (q := (35, [some (.ref 11), some (.int a), some (.int b), some (.int c), some (.int x4), some (.int x5), some (.int v1)], [.int v3], σ3)) (q' := (36, [some (.ref 11), some (.int a), some (.int b), some (.int c), some (.int x4), some (.int x5), some (.int v1)], [.int 1, .int v3], σ3)) rfl ?_
      refine PW.icm (t := 54) (ins_l hw_20 rfl) rfl (fun hc3 => ?_) (fun hc3 => ?_)
      · replace h := (if_neg (c_neT hc3)).mp h
        refine PW.runs hw_20 rfl 2 (q := (54, [some (.ref 11), some (.int a), some (.int b), some (.int c), some (.int x4), some (.int x5), some (.int v1)], [], σ3)) (q' := (56, [some (.ref 11), some (.int a), some (.int b), some (.int c), some (.int x4), some (.int x5), some (.int v1)], [.int 4, .int a], σ3)) rfl ?_
        refine PW.icm (t := 87) (ins_l hw_20 rfl) rfl (fun hc4 => ?_) (fun hc4 => ?_)
        · replace h := (if_neg (c_neT hc4)).mp h
          refine PW.runs hw_20 rfl 2 (q := (87, [some (.ref 11), some (.int a), some (.int b), some (.int c), some (.int x4), some (.int x5), some (.int v1)], [], σ3)) (q' := (6, [some (.ref 11), some (.int a), some (.int b), some (.int c), some (.int x4), some (.int (x5 + 1)), some (.int v1)], [], σ3)) rfl ?_
          exact h
        · replace h := (if_pos (c_neF hc4)).mp h
          refine PW.runs hw_20 rfl 1 (q := (59, [some (.ref 11), some (.int a), some (.int b), some (.int c), some (.int x4), some (.int x5), some (.int v1)], [], σ3)) (q' := (61, [some (.ref 11), some (.int a), some (.int b), some (.int c), some (.int x4), some (.int x5), some (.int v1)], [.int v1], σ3)) rfl ?_
          refine PW.ifc (t := 87) (ins_l hw_20 rfl) rfl (fun hc5 => ?_) (fun hc5 => ?_)
          · replace h := (if_neg (c_neT hc5)).mp h
            refine PW.runs hw_20 rfl 2 (q := (87, [some (.ref 11), some (.int a), some (.int b), some (.int c), some (.int x4), some (.int x5), some (.int v1)], [], σ3)) (q' := (6, [some (.ref 11), some (.int a), some (.int b), some (.int c), some (.int x4), some (.int (x5 + 1)), some (.int v1)], [], σ3)) rfl ?_
            exact h
          · replace h := (if_pos (c_neF hc5)).mp h
            refine PW.runs hw_20 rfl 2 (q := (64, [some (.ref 11), some (.int a), some (.int b), some (.int c), some (.int x4), some (.int x5), some (.int v1)], [], σ3)) (q' := (67, [some (.ref 11), some (.int a), some (.int b), some (.int c), some (.int x4), some (.int x5), some (.int v1)], [.int x5, .int c], σ3)) rfl ?_
            refine PW.callS (vs := [.int c, .int x5]) (rest := []) (ins_l hw_20 rfl) rfl (Or.inr rfl) rfl (Nat.le_of_ble_eq_true rfl) (Nat.le_of_ble_eq_true rfl) (PW.mono h ?_)
            rintro _ σ4 ⟨v4, rfl, h⟩
            show PW none 20 70 [some (.ref 11), some (.int a), some (.int b), some (.int c), some (.int x4), some (.int x5), some (.int v1)] [.int v4] σ4 _
            refine PW.ifc (t := 87) (ins_l hw_20 rfl) rfl (fun hc6 => ?_) (fun hc6 => ?_)
            · replace h := (if_neg (c_neT hc6)).mp h
              refine PW.runs hw_20 rfl 2 (q := (87, [some (.ref 11), some (.int a), some (.int b), some (.int c), some (.int x4), some (.int x5), some (.int v1)], [], σ4)) (q' := (6, [some (.ref 11), some (.int a), some (.int b), some (.int c), some (.int x4), some (.int (x5 + 1)), some (.int v1)], [], σ4)) rfl ?_
              exact h
            · replace h := (if_pos (c_neF hc6)).mp h
              refine PW.runs hw_20 rfl 4 (q := (73, [some (.ref 11), some (.int a), some (.int b), some (.int c), some (.int x4), some (.int x5), some (.int v1)], [], σ4)) (q' := (81, [some (.ref 11), some (.int a), some (.int b), some (.int c), some (.int x4), some (.int x5), some (.int v1)], [.int x5, .ref 14, .int x4], σ4)) rfl ?_
              obtain ⟨hb1, h⟩ := h
              refine PW.iald (n := 12) (ins_l hw_20 rfl) rfl (idx_in hb1.1 hb1.2).1 ?_
              refine PW.runs hw_20 rfl 1 (q := (82, [some (.ref 11), some (.int a), some (.int b), some (.int c), some (.int x4), some (.int x5), some (.int v1)], [.int (σ4 14 (Int32.toNatClampNeg x5)), .int x4], σ4)) (q' := (83, [some (.ref 11), some (.int a), some (.int b), some (.int c), some (.int x4), some (.int x5), some (.int v1)], [.int 3, .int (σ4 14 (Int32.toNatClampNeg x5)), .int x4], σ4)) rfl ?_
              refine PW.step (q := (84, [some (.ref 11), some (.int a), some (.int b), some (.int c), some (.int x4), some (.int x5), some (.int v1)], [.int ((σ4 14 (Int32.toNatClampNeg x5)) / 3), .int x4], σ4)) (ins_l hw_20 rfl) rfl (by simp only [stp, p2, q2]; rw [if_neg (by decide)]) ?_
              refine PW.runs hw_20 rfl 4 (q := (84, [some (.ref 11), some (.int a), some (.int b), some (.int c), some (.int x4), some (.int x5), some (.int v1)], [.int ((σ4 14 (Int32.toNatClampNeg x5)) / 3), .int x4], σ4)) (q' := (6, [some (.ref 11), some (.int a), some (.int b), some (.int c), some (.int (x4 + ((σ4 14 (Int32.toNatClampNeg x5)) / 3))), some (.int (x5 + 1)), some (.int v1)], [], σ4)) rfl ?_
              exact h
      · replace h := (if_pos (c_neF hc3)).mp h
        refine PW.runs hw_20 rfl 4 (q := (39, [some (.ref 11), some (.int a), some (.int b), some (.int c), some (.int x4), some (.int x5), some (.int v1)], [], σ3)) (q' := (45, [some (.ref 11), some (.int a), some (.int b), some (.int c), some (.int x4), some (.int x5), some (.int v1)], [.int x5, .int a, .ref 11, .int x4], σ3)) rfl ?_
        refine PW.callV (b := 11) (vs := [.int a, .int x5]) (rest := [.int x4]) (ins_l hw_20 rfl) rfl rfl rfl (Nat.le_of_ble_eq_true rfl) (Nat.le_of_ble_eq_true rfl) (PW.mono h ?_)
        rintro _ σ5 ⟨v5, rfl, h⟩
        show PW none 20 48 [some (.ref 11), some (.int a), some (.int b), some (.int c), some (.int x4), some (.int x5), some (.int v1)] [.int v5, .int x4] σ5 _
        refine PW.runs hw_20 rfl 5 (q := (48, [some (.ref 11), some (.int a), some (.int b), some (.int c), some (.int x4), some (.int x5), some (.int v1)], [.int v5, .int x4], σ5)) (q' := (6, [some (.ref 11), some (.int a), some (.int b), some (.int c), some (.int (x4 + v5)), some (.int (x5 + 1)), some (.int v1)], [], σ5)) rfl ?_
        exact h
theorem hw_95 : pins.getD 95 [] = pi_95 := rfl
/-! MapDuty.dutyOf.(I)I -/
set_option maxRecDepth 20000 in
theorem w_95 {a : Int32} {σ : St} {K : Int32 → St → Prop} (h : CI 86 [.ref 0, .int a] σ (fun v1 σ1 => (if v1 = 0 then K 0 σ1 else ((0 ≤ a.toInt ∧ a.toInt < 5) ∧ CI 20 [.ref 11, .int (σ1 16 (Int32.toNatClampNeg a)), .int (σ1 20 (Int32.toNatClampNeg a)), .int (σ1 19 0)] σ1 (fun v2 σ2 => K v2 σ2))))) : CI 95 [.ref 0, .int a] σ K := by
  show PW none 95 0 [some (.ref 0), some (.int a)] [] σ _
  refine PW.runs hw_95 rfl 2 (q := (0, [some (.ref 0), some (.int a)], [], σ)) (q' := (2, [some (.ref 0), some (.int a)], [.int a, .ref 0], σ)) rfl ?_
  refine PW.callV (b := 0) (vs := [.int a]) (rest := []) (ins_l hw_95 rfl) rfl rfl rfl (Nat.le_of_ble_eq_true rfl) (Nat.le_of_ble_eq_true rfl) (PW.mono h ?_)
  rintro _ σ1 ⟨v1, rfl, h⟩
  show PW none 95 5 [some (.ref 0), some (.int a)] [.int v1] σ1 _
  refine PW.ifc (t := 43) (ins_l hw_95 rfl) rfl (fun hc1 => ?_) (fun hc1 => ?_)
  · replace h := (if_pos (c_eqT hc1)).mp h
    refine PW.runs hw_95 rfl 1 (q := (43, [some (.ref 0), some (.int a)], [], σ1)) (q' := (44, [some (.ref 0), some (.int a)], [.int 0], σ1)) rfl ?_
    exact PW.iret (ins_l hw_95 rfl) (Or.inl rfl) ⟨_, rfl, h⟩
  · replace h := (if_neg (c_eqF hc1)).mp h
    refine PW.runs hw_95 rfl 6 (q := (8, [some (.ref 0), some (.int a)], [], σ1)) (q' := (20, [some (.ref 0), some (.int a)], [.int a, .ref 16, .ref 11], σ1)) rfl ?_
    obtain ⟨hb1, h⟩ := h
    refine PW.iald (n := 5) (ins_l hw_95 rfl) rfl (idx_in hb1.1 hb1.2).1 ?_
    refine PW.runs hw_95 rfl 4 (q := (21, [some (.ref 0), some (.int a)], [.int (σ1 16 (Int32.toNatClampNeg a)), .ref 11], σ1)) (q' := (29, [some (.ref 0), some (.int a)], [.int a, .ref 20, .int (σ1 16 (Int32.toNatClampNeg a)), .ref 11], σ1)) rfl ?_
    refine PW.iald (n := 5) (ins_l hw_95 rfl) rfl (idx_in hb1.1 hb1.2).1 ?_
    refine PW.runs hw_95 rfl 3 (q := (30, [some (.ref 0), some (.int a)], [.int (σ1 20 (Int32.toNatClampNeg a)), .int (σ1 16 (Int32.toNatClampNeg a)), .ref 11], σ1)) (q' := (37, [some (.ref 0), some (.int a)], [.int (σ1 19 0), .int (σ1 20 (Int32.toNatClampNeg a)), .int (σ1 16 (Int32.toNatClampNeg a)), .ref 11], σ1)) rfl ?_
    refine PW.callV (b := 11) (vs := [.int (σ1 16 (Int32.toNatClampNeg a)), .int (σ1 20 (Int32.toNatClampNeg a)), .int (σ1 19 0)]) (rest := []) (ins_l hw_95 rfl) rfl rfl rfl (Nat.le_of_ble_eq_true rfl) (Nat.le_of_ble_eq_true rfl) (PW.mono h ?_)
    rintro _ σ2 ⟨v2, rfl, h⟩
    show PW none 95 40 [some (.ref 0), some (.int a)] [.int v2] σ2 _
    refine PW.runs hw_95 rfl 1 (q := (40, [some (.ref 0), some (.int a)], [.int v2], σ2)) (q' := (44, [some (.ref 0), some (.int a)], [.int v2], σ2)) rfl ?_
    exact PW.iret (ins_l hw_95 rfl) (Or.inl rfl) ⟨_, rfl, h⟩
theorem hw_21 : pins.getD 21 [] = pi_21 := rfl
/-! MapDuty$Plan.untrueSeen.(III)I -/
set_option maxRecDepth 20000 in
theorem w_21 {a : Int32} {b : Int32} {c : Int32} {σ : St} {K : Int32 → St → Prop} (h : PI 21 9 [some (.ref 11), some (.int a), some (.int b), some (.int c), some (.int a), some (.int 0), some (.int 0)] [] σ K) : CI 21 [.ref 11, .int a, .int b, .int c] σ K := by
  show PW none 21 0 [some (.ref 11), some (.int a), some (.int b), some (.int c), none, none, none] [] σ _
  refine PW.runs hw_21 rfl 6 (q := (0, [some (.ref 11), some (.int a), some (.int b), some (.int c), none, none, none], [], σ)) (q' := (9, [some (.ref 11), some (.int a), some (.int b), some (.int c), some (.int a), some (.int 0), some (.int 0)], [], σ)) rfl ?_
  exact h
set_option maxRecDepth 20000 in
theorem w_21_9 {a : Int32} {b : Int32} {c : Int32} {x4 : Int32} {x5 : Int32} {x6 : Int32} {σ : St} {K : Int32 → St → Prop} (h : (if (σ 11 1) ≤ x6 then K x5 σ else (if x4 ≤ 0 then K x5 σ else ((0 ≤ x6.toInt ∧ x6.toInt < 12) ∧ CI 92 [.int b, .int (σ 15 (Int32.toNatClampNeg x6))] σ (fun v1 σ1 => (if v1 = 1 then CI 92 [.int c, .int (σ1 15 (Int32.toNatClampNeg x6))] σ1 (fun v2 σ2 => PI 21 9 [some (.ref 11), some (.int a), some (.int b), some (.int c), some (.int (x4 + (-1))), some (.int (x5 + (1 - v2))), some (.int (x6 + 1))] [] σ2 K) else PI 21 9 [some (.ref 11), some (.int a), some (.int b), some (.int c), some (.int x4), some (.int x5), some (.int (x6 + 1))] [] σ1 K)))))) : PI 21 9 [some (.ref 11), some (.int a), some (.int b), some (.int c), some (.int x4), some (.int x5), some (.int x6)] [] σ K := by
  show PW none 21 9 [some (.ref 11), some (.int a), some (.int b), some (.int c), some (.int x4), some (.int x5), some (.int x6)] [] σ _
  refine PW.runs hw_21 rfl 3 (q := (9, [some (.ref 11), some (.int a), some (.int b), some (.int c), some (.int x4), some (.int x5), some (.int x6)], [], σ)) (q' := (15, [some (.ref 11), some (.int a), some (.int b), some (.int c), some (.int x4), some (.int x5), some (.int x6)], [.int (σ 11 1), .int x6], σ)) rfl ?_
  refine PW.icm (t := 65) (ins_l hw_21 rfl) rfl (fun hc1 => ?_) (fun hc1 => ?_)
  · replace h := (if_pos (c_geT hc1)).mp h
    refine PW.runs hw_21 rfl 1 (q := (65, [some (.ref 11), some (.int a), some (.int b), some (.int c), some (.int x4), some (.int x5), some (.int x6)], [], σ)) (q' := (67, [some (.ref 11), some (.int a), some (.int b), some (.int c), some (.int x4), some (.int x5), some (.int x6)], [.int x5], σ)) rfl ?_
    exact PW.iret (ins_l hw_21 rfl) (Or.inl rfl) ⟨_, rfl, h⟩
  · replace h := (if_neg (c_geF hc1)).mp h
    refine PW.runs hw_21 rfl 1 (q := (18, [some (.ref 11), some (.int a), some (.int b), some (.int c), some (.int x4), some (.int x5), some (.int x6)], [], σ)) (q' := (20, [some (.ref 11), some (.int a), some (.int b), some (.int c), some (.int x4), some (.int x5), some (.int x6)], [.int x4], σ)) rfl ?_
    refine PW.ifc (t := 65) (ins_l hw_21 rfl) rfl (fun hc2 => ?_) (fun hc2 => ?_)
    · replace h := (if_pos (c_leT hc2)).mp h
      refine PW.runs hw_21 rfl 1 (q := (65, [some (.ref 11), some (.int a), some (.int b), some (.int c), some (.int x4), some (.int x5), some (.int x6)], [], σ)) (q' := (67, [some (.ref 11), some (.int a), some (.int b), some (.int c), some (.int x4), some (.int x5), some (.int x6)], [.int x5], σ)) rfl ?_
      exact PW.iret (ins_l hw_21 rfl) (Or.inl rfl) ⟨_, rfl, h⟩
    · replace h := (if_neg (c_leF hc2)).mp h
      refine PW.runs hw_21 rfl 4 (q := (23, [some (.ref 11), some (.int a), some (.int b), some (.int c), some (.int x4), some (.int x5), some (.int x6)], [], σ)) (q' := (30, [some (.ref 11), some (.int a), some (.int b), some (.int c), some (.int x4), some (.int x5), some (.int x6)], [.int x6, .ref 15, .int b], σ)) rfl ?_
      obtain ⟨hb1, h⟩ := h
      refine PW.iald (n := 12) (ins_l hw_21 rfl) rfl (idx_in hb1.1 hb1.2).1 ?_
      refine PW.callS (vs := [.int b, .int (σ 15 (Int32.toNatClampNeg x6))]) (rest := []) (ins_l hw_21 rfl) rfl (Or.inr rfl) rfl (Nat.le_of_ble_eq_true rfl) (Nat.le_of_ble_eq_true rfl) (PW.mono h ?_)
      rintro _ σ1 ⟨v1, rfl, h⟩
      show PW none 21 34 [some (.ref 11), some (.int a), some (.int b), some (.int c), some (.int x4), some (.int x5), some (.int x6)] [.int v1] σ1 _
      refine PW.runs hw_21 rfl 1 (q := (34, [some (.ref 11), some (.int a), some (.int b), some (.int c), some (.int x4), some (.int x5), some (.int x6)], [.int v1], σ1)) (q' := (35, [some (.ref 11), some (.int a), some (.int b), some (.int c), some (.int x4), some (.int x5), some (.int x6)], [.int 1, .int v1], σ1)) rfl ?_
      refine PW.icm (t := 59) (ins_l hw_21 rfl) rfl (fun hc3 => ?_) (fun hc3 => ?_)
      · replace h := (if_neg (c_neT hc3)).mp h
        refine PW.runs hw_21 rfl 2 (q := (59, [some (.ref 11), some (.int a), some (.int b), some (.int c), some (.int x4), some (.int x5), some (.int x6)], [], σ1)) (q' := (9, [some (.ref 11), some (.int a), some (.int b), some (.int c), some (.int x4), some (.int x5), some (.int (x6 + 1))], [], σ1)) rfl ?_
        exact h
      · replace h := (if_pos (c_neF hc3)).mp h
        refine PW.runs hw_21 rfl 7 (q := (38, [some (.ref 11), some (.int a), some (.int b), some (.int c), some (.int x4), some (.int x5), some (.int x6)], [], σ1)) (q' := (51, [some (.ref 11), some (.int a), some (.int b), some (.int c), some (.int (x4 + (-1))), some (.int x5), some (.int x6)], [.int x6, .ref 15, .int c, .int 1, .int x5], σ1)) rfl ?_
        refine PW.iald (n := 12) (ins_l hw_21 rfl) rfl (idx_in hb1.1 hb1.2).1 ?_
        refine PW.callS (vs := [.int c, .int (σ1 15 (Int32.toNatClampNeg x6))]) (rest := [.int 1, .int x5]) (ins_l hw_21 rfl) rfl (Or.inr rfl) rfl (Nat.le_of_ble_eq_true rfl) (Nat.le_of_ble_eq_true rfl) (PW.mono h ?_)
        rintro _ σ2 ⟨v2, rfl, h⟩
        show PW none 21 55 [some (.ref 11), some (.int a), some (.int b), some (.int c), some (.int (x4 + (-1))), some (.int x5), some (.int x6)] [.int v2, .int 1, .int x5] σ2 _
        refine PW.runs hw_21 rfl 5 (q := (55, [some (.ref 11), some (.int a), some (.int b), some (.int c), some (.int (x4 + (-1))), some (.int x5), some (.int x6)], [.int v2, .int 1, .int x5], σ2)) (q' := (9, [some (.ref 11), some (.int a), some (.int b), some (.int c), some (.int (x4 + (-1))), some (.int (x5 + (1 - v2))), some (.int (x6 + 1))], [], σ2)) rfl ?_
        exact h
theorem hw_101 : pins.getD 101 [] = pi_101 := rfl
/-! MapDuty.fineBy.(II)I -/
set_option maxRecDepth 20000 in
theorem w_101 {a : Int32} {b : Int32} {σ : St} {K : Int32 → St → Prop} (h : CI 87 [.ref 0, .int a] σ (fun v1 σ1 => (if v1 = 0 then K 0 σ1 else CI 86 [.ref 0, .int b] σ1 (fun v2 σ2 => (if v2 = 0 then K 0 σ2 else ((0 ≤ a.toInt ∧ a.toInt < 4) ∧ ((0 ≤ b.toInt ∧ b.toInt < 5) ∧ CI 21 [.ref 11, .int (σ2 18 (Int32.toNatClampNeg a)), .int (σ2 20 (Int32.toNatClampNeg b)), .int (σ2 19 0)] σ2 (fun v3 σ3 => K (10 * v3) σ3)))))))) : CI 101 [.ref 0, .int a, .int b] σ K := by
  show PW none 101 0 [some (.ref 0), some (.int a), some (.int b)] [] σ _
  refine PW.runs hw_101 rfl 2 (q := (0, [some (.ref 0), some (.int a), some (.int b)], [], σ)) (q' := (2, [some (.ref 0), some (.int a), some (.int b)], [.int a, .ref 0], σ)) rfl ?_
  refine PW.callV (b := 0) (vs := [.int a]) (rest := []) (ins_l hw_101 rfl) rfl rfl rfl (Nat.le_of_ble_eq_true rfl) (Nat.le_of_ble_eq_true rfl) (PW.mono h ?_)
  rintro _ σ1 ⟨v1, rfl, h⟩
  show PW none 101 5 [some (.ref 0), some (.int a), some (.int b)] [.int v1] σ1 _
  refine PW.ifc (t := 16) (ins_l hw_101 rfl) rfl (fun hc1 => ?_) (fun hc1 => ?_)
  · replace h := (if_pos (c_eqT hc1)).mp h
    refine PW.runs hw_101 rfl 1 (q := (16, [some (.ref 0), some (.int a), some (.int b)], [], σ1)) (q' := (17, [some (.ref 0), some (.int a), some (.int b)], [.int 0], σ1)) rfl ?_
    exact PW.iret (ins_l hw_101 rfl) (Or.inl rfl) ⟨_, rfl, h⟩
  · replace h := (if_neg (c_eqF hc1)).mp h
    refine PW.runs hw_101 rfl 2 (q := (8, [some (.ref 0), some (.int a), some (.int b)], [], σ1)) (q' := (10, [some (.ref 0), some (.int a), some (.int b)], [.int b, .ref 0], σ1)) rfl ?_
    refine PW.callV (b := 0) (vs := [.int b]) (rest := []) (ins_l hw_101 rfl) rfl rfl rfl (Nat.le_of_ble_eq_true rfl) (Nat.le_of_ble_eq_true rfl) (PW.mono h ?_)
    rintro _ σ2 ⟨v2, rfl, h⟩
    show PW none 101 13 [some (.ref 0), some (.int a), some (.int b)] [.int v2] σ2 _
    refine PW.ifc (t := 18) (ins_l hw_101 rfl) rfl (fun hc2 => ?_) (fun hc2 => ?_)
    · replace h := (if_neg (c_neT hc2)).mp h
      refine PW.runs hw_101 rfl 7 (q := (18, [some (.ref 0), some (.int a), some (.int b)], [], σ2)) (q' := (32, [some (.ref 0), some (.int a), some (.int b)], [.int a, .ref 18, .ref 11, .int 10], σ2)) rfl ?_
      obtain ⟨hb1, h⟩ := h
      refine PW.iald (n := 4) (ins_l hw_101 rfl) rfl (idx_in hb1.1 hb1.2).1 ?_
      refine PW.runs hw_101 rfl 4 (q := (33, [some (.ref 0), some (.int a), some (.int b)], [.int (σ2 18 (Int32.toNatClampNeg a)), .ref 11, .int 10], σ2)) (q' := (41, [some (.ref 0), some (.int a), some (.int b)], [.int b, .ref 20, .int (σ2 18 (Int32.toNatClampNeg a)), .ref 11, .int 10], σ2)) rfl ?_
      obtain ⟨hb2, h⟩ := h
      refine PW.iald (n := 5) (ins_l hw_101 rfl) rfl (idx_in hb2.1 hb2.2).1 ?_
      refine PW.runs hw_101 rfl 3 (q := (42, [some (.ref 0), some (.int a), some (.int b)], [.int (σ2 20 (Int32.toNatClampNeg b)), .int (σ2 18 (Int32.toNatClampNeg a)), .ref 11, .int 10], σ2)) (q' := (49, [some (.ref 0), some (.int a), some (.int b)], [.int (σ2 19 0), .int (σ2 20 (Int32.toNatClampNeg b)), .int (σ2 18 (Int32.toNatClampNeg a)), .ref 11, .int 10], σ2)) rfl ?_
      refine PW.callV (b := 11) (vs := [.int (σ2 18 (Int32.toNatClampNeg a)), .int (σ2 20 (Int32.toNatClampNeg b)), .int (σ2 19 0)]) (rest := [.int 10]) (ins_l hw_101 rfl) rfl rfl rfl (Nat.le_of_ble_eq_true rfl) (Nat.le_of_ble_eq_true rfl) (PW.mono h ?_)
      rintro _ σ3 ⟨v3, rfl, h⟩
      show PW none 101 52 [some (.ref 0), some (.int a), some (.int b)] [.int v3, .int 10] σ3 _
      refine PW.runs hw_101 rfl 1 (q := (52, [some (.ref 0), some (.int a), some (.int b)], [.int v3, .int 10], σ3)) (q' := (53, [some (.ref 0), some (.int a), some (.int b)], [.int (10 * v3)], σ3)) rfl ?_
      exact PW.iret (ins_l hw_101 rfl) (Or.inl rfl) ⟨_, rfl, h⟩
    · replace h := (if_pos (c_neF hc2)).mp h
      refine PW.runs hw_101 rfl 1 (q := (16, [some (.ref 0), some (.int a), some (.int b)], [], σ2)) (q' := (17, [some (.ref 0), some (.int a), some (.int b)], [.int 0], σ2)) rfl ?_
      exact PW.iret (ins_l hw_101 rfl) (Or.inl rfl) ⟨_, rfl, h⟩
theorem hw_72 : pins.getD 72 [] = pi_72 := rfl
/-! MapDuty.finds.(II)I -/
set_option maxRecDepth 20000 in
theorem w_72 {a : Int32} {b : Int32} {σ : St} {K : Int32 → St → Prop} (h : CI 87 [.ref 0, .int a] σ (fun v1 σ1 => (if v1 = 0 then K (-1000000001) σ1 else CI 86 [.ref 0, .int b] σ1 (fun v2 σ2 => (if v2 = 0 then K (-1000000001) σ2 else CI 101 [.ref 0, .int a, .int b] σ2 (fun v3 σ3 => K v3 σ3)))))) : CI 72 [.ref 0, .int a, .int b] σ K := by
  show PW none 72 0 [some (.ref 0), some (.int a), some (.int b)] [] σ _
  refine PW.runs hw_72 rfl 2 (q := (0, [some (.ref 0), some (.int a), some (.int b)], [], σ)) (q' := (2, [some (.ref 0), some (.int a), some (.int b)], [.int a, .ref 0], σ)) rfl ?_
  refine PW.callV (b := 0) (vs := [.int a]) (rest := []) (ins_l hw_72 rfl) rfl rfl rfl (Nat.le_of_ble_eq_true rfl) (Nat.le_of_ble_eq_true rfl) (PW.mono h ?_)
  rintro _ σ1 ⟨v1, rfl, h⟩
  show PW none 72 5 [some (.ref 0), some (.int a), some (.int b)] [.int v1] σ1 _
  refine PW.ifc (t := 16) (ins_l hw_72 rfl) rfl (fun hc1 => ?_) (fun hc1 => ?_)
  · replace h := (if_pos (c_eqT hc1)).mp h
    refine PW.runs hw_72 rfl 1 (q := (16, [some (.ref 0), some (.int a), some (.int b)], [], σ1)) (q' := (18, [some (.ref 0), some (.int a), some (.int b)], [.int (-1000000001)], σ1)) rfl ?_
    exact PW.iret (ins_l hw_72 rfl) (Or.inl rfl) ⟨_, rfl, h⟩
  · replace h := (if_neg (c_eqF hc1)).mp h
    refine PW.runs hw_72 rfl 2 (q := (8, [some (.ref 0), some (.int a), some (.int b)], [], σ1)) (q' := (10, [some (.ref 0), some (.int a), some (.int b)], [.int b, .ref 0], σ1)) rfl ?_
    refine PW.callV (b := 0) (vs := [.int b]) (rest := []) (ins_l hw_72 rfl) rfl rfl rfl (Nat.le_of_ble_eq_true rfl) (Nat.le_of_ble_eq_true rfl) (PW.mono h ?_)
    rintro _ σ2 ⟨v2, rfl, h⟩
    show PW none 72 13 [some (.ref 0), some (.int a), some (.int b)] [.int v2] σ2 _
    refine PW.ifc (t := 19) (ins_l hw_72 rfl) rfl (fun hc2 => ?_) (fun hc2 => ?_)
    · replace h := (if_neg (c_neT hc2)).mp h
      refine PW.runs hw_72 rfl 3 (q := (19, [some (.ref 0), some (.int a), some (.int b)], [], σ2)) (q' := (22, [some (.ref 0), some (.int a), some (.int b)], [.int b, .int a, .ref 0], σ2)) rfl ?_
      refine PW.callV (b := 0) (vs := [.int a, .int b]) (rest := []) (ins_l hw_72 rfl) rfl rfl rfl (Nat.le_of_ble_eq_true rfl) (Nat.le_of_ble_eq_true rfl) (PW.mono h ?_)
      rintro _ σ3 ⟨v3, rfl, h⟩
      show PW none 72 25 [some (.ref 0), some (.int a), some (.int b)] [.int v3] σ3 _
      exact PW.iret (ins_l hw_72 rfl) (Or.inl rfl) ⟨_, rfl, h⟩
    · replace h := (if_pos (c_neF hc2)).mp h
      refine PW.runs hw_72 rfl 1 (q := (16, [some (.ref 0), some (.int a), some (.int b)], [], σ2)) (q' := (18, [some (.ref 0), some (.int a), some (.int b)], [.int (-1000000001)], σ2)) rfl ?_
      exact PW.iret (ins_l hw_72 rfl) (Or.inl rfl) ⟨_, rfl, h⟩
theorem hw_80 : pins.getD 80 [] = pi_80 := rfl
/-! MapDuty.judge.()I -/
set_option maxRecDepth 20000 in
theorem w_80  {σ : St} {K : Int32 → St → Prop} (h : CI 3 [.ref 29, .ref 21] σ (fun v1 σ1 => K v1 σ1)) : CI 80 [.ref 0] σ K := by
  show PW none 80 0 [some (.ref 0)] [] σ _
  refine PW.runs hw_80 rfl 5 (q := (0, [some (.ref 0)], [], σ)) (q' := (11, [some (.ref 0)], [.ref 21, .ref 29], σ)) rfl ?_
  refine PW.callV (b := 29) (vs := [.ref 21]) (rest := []) (ins_l hw_80 rfl) rfl rfl rfl (Nat.le_of_ble_eq_true rfl) (Nat.le_of_ble_eq_true rfl) (PW.mono h ?_)
  rintro _ σ1 ⟨v1, rfl, h⟩
  show PW none 80 14 [some (.ref 0)] [.int v1] σ1 _
  exact PW.iret (ins_l hw_80 rfl) (Or.inl rfl) ⟨_, rfl, h⟩
theorem hw_3 : pins.getD 3 [] = pi_3 := rfl
/-! MapDuty$Book.firstWrong.([I)I -/
set_option maxRecDepth 20000 in
theorem w_3  {σ : St} {K : Int32 → St → Prop} (h : PI 3 2 [some (.ref 29), some (.ref 21), some (.int 0), none] [] σ K) : CI 3 [.ref 29, .ref 21] σ K := by
  show PW none 3 0 [some (.ref 29), some (.ref 21), none, none] [] σ _
  refine PW.runs hw_3 rfl 2 (q := (0, [some (.ref 29), some (.ref 21), none, none], [], σ)) (q' := (2, [some (.ref 29), some (.ref 21), some (.int 0), none], [], σ)) rfl ?_
  exact h
set_option maxRecDepth 20000 in
theorem w_3_2 {x2 : Int32} {o3 : Option Value} {σ : St} {K : Int32 → St → Prop} (h : (if (σ 29 1) ≤ x2 then K (-1) σ else ((0 ≤ x2.toInt ∧ x2.toInt < 15) ∧ (if (σ 32 (Int32.toNatClampNeg x2)) < 0 then PI 3 2 [some (.ref 29), some (.ref 21), some (.int (x2 + 1)), some (.int (σ 32 (Int32.toNatClampNeg x2)))] [] σ K else (if 5 ≤ (σ 32 (Int32.toNatClampNeg x2)) then PI 3 2 [some (.ref 29), some (.ref 21), some (.int (x2 + 1)), some (.int (σ 32 (Int32.toNatClampNeg x2)))] [] σ K else ((0 ≤ (σ 32 (Int32.toNatClampNeg x2)).toInt ∧ (σ 32 (Int32.toNatClampNeg x2)).toInt < 5) ∧ (if (σ 21 (Int32.toNatClampNeg (σ 32 (Int32.toNatClampNeg x2)))) = (σ 33 (Int32.toNatClampNeg x2)) then PI 3 2 [some (.ref 29), some (.ref 21), some (.int (x2 + 1)), some (.int (σ 32 (Int32.toNatClampNeg x2)))] [] σ K else K x2 σ))))))) : PI 3 2 [some (.ref 29), some (.ref 21), some (.int x2), o3] [] σ K := by
  show PW none 3 2 [some (.ref 29), some (.ref 21), some (.int x2), o3] [] σ _
  refine PW.runs hw_3 rfl 3 (q := (2, [some (.ref 29), some (.ref 21), some (.int x2), o3], [], σ)) (q' := (7, [some (.ref 29), some (.ref 21), some (.int x2), o3], [.int (σ 29 1), .int x2], σ)) rfl ?_
  refine PW.icm (t := 47) (ins_l hw_3 rfl) rfl (fun hc1 => ?_) (fun hc1 => ?_)
  · replace h := (if_pos (c_geT hc1)).mp h
    refine PW.runs hw_3 rfl 1 (q := (47, [some (.ref 29), some (.ref 21), some (.int x2), o3], [], σ)) (q' := (48, [some (.ref 29), some (.ref 21), some (.int x2), o3], [.int (-1)], σ)) rfl ?_
    exact PW.iret (ins_l hw_3 rfl) (Or.inl rfl) ⟨_, rfl, h⟩
  · replace h := (if_neg (c_geF hc1)).mp h
    refine PW.runs hw_3 rfl 3 (q := (10, [some (.ref 29), some (.ref 21), some (.int x2), o3], [], σ)) (q' := (15, [some (.ref 29), some (.ref 21), some (.int x2), o3], [.int x2, .ref 32], σ)) rfl ?_
    obtain ⟨hb1, h⟩ := h
    refine PW.iald (n := 15) (ins_l hw_3 rfl) rfl (idx_in hb1.1 hb1.2).1 ?_
    refine PW.runs hw_3 rfl 2 (q := (16, [some (.ref 29), some (.ref 21), some (.int x2), o3], [.int (σ 32 (Int32.toNatClampNeg x2))], σ)) (q' := (18, [some (.ref 29), some (.ref 21), some (.int x2), some (.int (σ 32 (Int32.toNatClampNeg x2)))], [.int (σ 32 (Int32.toNatClampNeg x2))], σ)) rfl ?_
    refine PW.ifc (t := 41) (ins_l hw_3 rfl) rfl (fun hc2 => ?_) (fun hc2 => ?_)
    · replace h := (if_pos (c_ltT hc2)).mp h
      refine PW.runs hw_3 rfl 2 (q := (41, [some (.ref 29), some (.ref 21), some (.int x2), some (.int (σ 32 (Int32.toNatClampNeg x2)))], [], σ)) (q' := (2, [some (.ref 29), some (.ref 21), some (.int (x2 + 1)), some (.int (σ 32 (Int32.toNatClampNeg x2)))], [], σ)) rfl ?_
      exact h
    · replace h := (if_neg (c_ltF hc2)).mp h
      refine PW.runs hw_3 rfl 3 (q := (21, [some (.ref 29), some (.ref 21), some (.int x2), some (.int (σ 32 (Int32.toNatClampNeg x2)))], [], σ)) (q' := (24, [some (.ref 29), some (.ref 21), some (.int x2), some (.int (σ 32 (Int32.toNatClampNeg x2)))], [.int 5, .int (σ 32 (Int32.toNatClampNeg x2))], σ)) rfl ?_
      refine PW.icm (t := 41) (ins_l hw_3 rfl) rfl (fun hc3 => ?_) (fun hc3 => ?_)
      · replace h := (if_pos (c_geT hc3)).mp h
        refine PW.runs hw_3 rfl 2 (q := (41, [some (.ref 29), some (.ref 21), some (.int x2), some (.int (σ 32 (Int32.toNatClampNeg x2)))], [], σ)) (q' := (2, [some (.ref 29), some (.ref 21), some (.int (x2 + 1)), some (.int (σ 32 (Int32.toNatClampNeg x2)))], [], σ)) rfl ?_
        exact h
      · replace h := (if_neg (c_geF hc3)).mp h
        refine PW.runs hw_3 rfl 2 (q := (27, [some (.ref 29), some (.ref 21), some (.int x2), some (.int (σ 32 (Int32.toNatClampNeg x2)))], [], σ)) (q' := (29, [some (.ref 29), some (.ref 21), some (.int x2), some (.int (σ 32 (Int32.toNatClampNeg x2)))], [.int (σ 32 (Int32.toNatClampNeg x2)), .ref 21], σ)) rfl ?_
        obtain ⟨hb2, h⟩ := h
        refine PW.iald (n := 5) (ins_l hw_3 rfl) rfl (idx_in hb2.1 hb2.2).1 ?_
        refine PW.runs hw_3 rfl 3 (q := (30, [some (.ref 29), some (.ref 21), some (.int x2), some (.int (σ 32 (Int32.toNatClampNeg x2)))], [.int (σ 21 (Int32.toNatClampNeg (σ 32 (Int32.toNatClampNeg x2))))], σ)) (q' := (35, [some (.ref 29), some (.ref 21), some (.int x2), some (.int (σ 32 (Int32.toNatClampNeg x2)))], [.int x2, .ref 33, .int (σ 21 (Int32.toNatClampNeg (σ 32 (Int32.toNatClampNeg x2))))], σ)) rfl ?_
        refine PW.iald (n := 15) (ins_l hw_3 rfl) rfl (idx_in hb1.1 hb1.2).1 ?_
        refine PW.icm (t := 41) (ins_l hw_3 rfl) rfl (fun hc4 => ?_) (fun hc4 => ?_)
        · replace h := (if_pos (c_eqT hc4)).mp h
          refine PW.runs hw_3 rfl 2 (q := (41, [some (.ref 29), some (.ref 21), some (.int x2), some (.int (σ 32 (Int32.toNatClampNeg x2)))], [], σ)) (q' := (2, [some (.ref 29), some (.ref 21), some (.int (x2 + 1)), some (.int (σ 32 (Int32.toNatClampNeg x2)))], [], σ)) rfl ?_
          exact h
        · replace h := (if_neg (c_eqF hc4)).mp h
          refine PW.runs hw_3 rfl 1 (q := (39, [some (.ref 29), some (.ref 21), some (.int x2), some (.int (σ 32 (Int32.toNatClampNeg x2)))], [], σ)) (q' := (40, [some (.ref 29), some (.ref 21), some (.int x2), some (.int (σ 32 (Int32.toNatClampNeg x2)))], [.int x2], σ)) rfl ?_
          exact PW.iret (ins_l hw_3 rfl) (Or.inl rfl) ⟨_, rfl, h⟩
theorem hw_134 : pins.getD 134 [] = pi_134 := rfl
/-! MapDutyModel.dutyOn.(IIZZ)I -/
set_option maxRecDepth 20000 in
theorem w_134 {a : Int32} {b : Int32} {c : Int32} {e : Int32} {σ : St} {K : Int32 → St → Prop} (h : (if c = 0 then (if a = 4 then (if c = 0 then (if e = 0 then ((0 ≤ b.toInt ∧ b.toInt < 12) ∧ K ((σ 42 (Int32.toNatClampNeg b)) / 3) σ) else K 0 σ) else K 0 σ) else K 0 σ) else (if e = 0 then (if a = 4 then (if c = 0 then ((0 ≤ b.toInt ∧ b.toInt < 12) ∧ K ((σ 42 (Int32.toNatClampNeg b)) / 3) σ) else K 0 σ) else K 0 σ) else (if a = 1 then ((0 ≤ b.toInt ∧ b.toInt < 12) ∧ K (2 * (σ 42 (Int32.toNatClampNeg b))) σ) else (if a = 2 then ((0 ≤ b.toInt ∧ b.toInt < 12) ∧ K ((σ 42 (Int32.toNatClampNeg b)) / 2) σ) else (if a = 3 then ((0 ≤ b.toInt ∧ b.toInt < 12) ∧ (if (σ 42 (Int32.toNatClampNeg b)) ≤ 0 then K 0 σ else K 1 σ)) else ((0 ≤ b.toInt ∧ b.toInt < 12) ∧ K (σ 42 (Int32.toNatClampNeg b)) σ))))))) : CI 134 [.ref 39, .int a, .int b, .int c, .int e] σ K := by
  show PW none 134 0 [some (.ref 39), some (.int a), some (.int b), some (.int c), some (.int e)] [] σ _
  refine PW.runs hw_134 rfl 1 (q := (0, [some (.ref 39), some (.int a), some (.int b), some (.int c), some (.int e)], [], σ)) (q' := (1, [some (.ref 39), some (.int a), some (.int b), some (.int c), some (.int e)], [.int c], σ)) rfl ?_
  refine PW.ifc (t := 9) (ins_l hw_134 rfl) rfl (fun hc1 => ?_) (fun hc1 => ?_)
  · replace h := (if_pos (c_eqT hc1)).mp h
    refine PW.runs hw_134 rfl 2 (q := (9, [some (.ref 39), some (.int a), some (.int b), some (.int c), some (.int e)], [], σ)) (q' := (11, [some (.ref 39), some (.int a), some (.int b), some (.int c), some (.int e)], [.int 4, .int a], σ)) rfl ?_
    refine PW.icm (t := 34) (ins_l hw_134 rfl) rfl (fun hc2 => ?_) (fun hc2 => ?_)
    · replace h := (if_neg (c_neT hc2)).mp h
      refine PW.runs hw_134 rfl 1 (q := (34, [some (.ref 39), some (.int a), some (.int b), some (.int c), some (.int e)], [], σ)) (q' := (35, [some (.ref 39), some (.int a), some (.int b), some (.int c), some (.int e)], [.int 0], σ)) rfl ?_
      exact PW.iret (ins_l hw_134 rfl) (Or.inl rfl) ⟨_, rfl, h⟩
    · replace h := (if_pos (c_neF hc2)).mp h
      refine PW.runs hw_134 rfl 1 (q := (14, [some (.ref 39), some (.int a), some (.int b), some (.int c), some (.int e)], [], σ)) (q' := (15, [some (.ref 39), some (.int a), some (.int b), some (.int c), some (.int e)], [.int c], σ)) rfl ?_
      refine PW.ifc (t := 34) (ins_l hw_134 rfl) rfl (fun hc3 => ?_) (fun hc3 => ?_)
      · replace h := (if_neg (c_neT hc3)).mp h
        refine PW.runs hw_134 rfl 1 (q := (34, [some (.ref 39), some (.int a), some (.int b), some (.int c), some (.int e)], [], σ)) (q' := (35, [some (.ref 39), some (.int a), some (.int b), some (.int c), some (.int e)], [.int 0], σ)) rfl ?_
        exact PW.iret (ins_l hw_134 rfl) (Or.inl rfl) ⟨_, rfl, h⟩
      · replace h := (if_pos (c_neF hc3)).mp h
        refine PW.runs hw_134 rfl 1 (q := (18, [some (.ref 39), some (.int a), some (.int b), some (.int c), some (.int e)], [], σ)) (q' := (20, [some (.ref 39), some (.int a), some (.int b), some (.int c), some (.int e)], [.int e], σ)) rfl ?_
        refine PW.ifc (t := 34) (ins_l hw_134 rfl) rfl (fun hc4 => ?_) (fun hc4 => ?_)
        · replace h := (if_neg (c_neT hc4)).mp h
          refine PW.runs hw_134 rfl 1 (q := (34, [some (.ref 39), some (.int a), some (.int b), some (.int c), some (.int e)], [], σ)) (q' := (35, [some (.ref 39), some (.int a), some (.int b), some (.int c), some (.int e)], [.int 0], σ)) rfl ?_
          exact PW.iret (ins_l hw_134 rfl) (Or.inl rfl) ⟨_, rfl, h⟩
        · replace h := (if_pos (c_neF hc4)).mp h
          refine PW.runs hw_134 rfl 3 (q := (23, [some (.ref 39), some (.int a), some (.int b), some (.int c), some (.int e)], [], σ)) (q' := (28, [some (.ref 39), some (.int a), some (.int b), some (.int c), some (.int e)], [.int b, .ref 42], σ)) rfl ?_
          obtain ⟨hb1, h⟩ := h
          refine PW.iald (n := 12) (ins_l hw_134 rfl) rfl (idx_in hb1.1 hb1.2).1 ?_
          refine PW.runs hw_134 rfl 1 (q := (29, [some (.ref 39), some (.int a), some (.int b), some (.int c), some (.int e)], [.int (σ 42 (Int32.toNatClampNeg b))], σ)) (q' := (30, [some (.ref 39), some (.int a), some (.int b), some (.int c), some (.int e)], [.int 3, .int (σ 42 (Int32.toNatClampNeg b))], σ)) rfl ?_
          refine PW.step (q := (31, [some (.ref 39), some (.int a), some (.int b), some (.int c), some (.int e)], [.int ((σ 42 (Int32.toNatClampNeg b)) / 3)], σ)) (ins_l hw_134 rfl) rfl (by simp only [stp, p2, q2]; rw [if_neg (by decide)]) ?_
          refine PW.runs hw_134 rfl 1 (q := (31, [some (.ref 39), some (.int a), some (.int b), some (.int c), some (.int e)], [.int ((σ 42 (Int32.toNatClampNeg b)) / 3)], σ)) (q' := (35, [some (.ref 39), some (.int a), some (.int b), some (.int c), some (.int e)], [.int ((σ 42 (Int32.toNatClampNeg b)) / 3)], σ)) rfl ?_
          exact PW.iret (ins_l hw_134 rfl) (Or.inl rfl) ⟨_, rfl, h⟩
  · replace h := (if_neg (c_eqF hc1)).mp h
    refine PW.runs hw_134 rfl 1 (q := (4, [some (.ref 39), some (.int a), some (.int b), some (.int c), some (.int e)], [], σ)) (q' := (6, [some (.ref 39), some (.int a), some (.int b), some (.int c), some (.int e)], [.int e], σ)) rfl ?_
    refine PW.ifc (t := 36) (ins_l hw_134 rfl) rfl (fun hc2 => ?_) (fun hc2 => ?_)
    · replace h := (if_neg (c_neT hc2)).mp h
      refine PW.runs hw_134 rfl 1 (q := (36, [some (.ref 39), some (.int a), some (.int b), some (.int c), some (.int e)], [], σ)) (q' := (37, [some (.ref 39), some (.int a), some (.int b), some (.int c), some (.int e)], [.int a], σ)) rfl ?_
      by_cases c0 : a = 1
      · replace h := (if_pos c0).mp h
        refine PW.tswK (k := 0) (t := 64) (ins_l hw_134 rfl) c0 (by decide) (by decide) rfl rfl ?_
        refine PW.runs hw_134 rfl 4 (q := (64, [some (.ref 39), some (.int a), some (.int b), some (.int c), some (.int e)], [], σ)) (q' := (70, [some (.ref 39), some (.int a), some (.int b), some (.int c), some (.int e)], [.int b, .ref 42, .int 2], σ)) rfl ?_
        obtain ⟨hb1, h⟩ := h
        refine PW.iald (n := 12) (ins_l hw_134 rfl) rfl (idx_in hb1.1 hb1.2).1 ?_
        refine PW.runs hw_134 rfl 1 (q := (71, [some (.ref 39), some (.int a), some (.int b), some (.int c), some (.int e)], [.int (σ 42 (Int32.toNatClampNeg b)), .int 2], σ)) (q' := (72, [some (.ref 39), some (.int a), some (.int b), some (.int c), some (.int e)], [.int (2 * (σ 42 (Int32.toNatClampNeg b)))], σ)) rfl ?_
        exact PW.iret (ins_l hw_134 rfl) (Or.inl rfl) ⟨_, rfl, h⟩
      replace h := (if_neg c0).mp h
      by_cases c1 : a = 2
      · replace h := (if_pos c1).mp h
        refine PW.tswK (k := 1) (t := 73) (ins_l hw_134 rfl) c1 (by decide) (by decide) rfl rfl ?_
        refine PW.runs hw_134 rfl 3 (q := (73, [some (.ref 39), some (.int a), some (.int b), some (.int c), some (.int e)], [], σ)) (q' := (78, [some (.ref 39), some (.int a), some (.int b), some (.int c), some (.int e)], [.int b, .ref 42], σ)) rfl ?_
        obtain ⟨hb1, h⟩ := h
        refine PW.iald (n := 12) (ins_l hw_134 rfl) rfl (idx_in hb1.1 hb1.2).1 ?_
        refine PW.runs hw_134 rfl 1 (q := (79, [some (.ref 39), some (.int a), some (.int b), some (.int c), some (.int e)], [.int (σ 42 (Int32.toNatClampNeg b))], σ)) (q' := (80, [some (.ref 39), some (.int a), some (.int b), some (.int c), some (.int e)], [.int 2, .int (σ 42 (Int32.toNatClampNeg b))], σ)) rfl ?_
        refine PW.step (q := (81, [some (.ref 39), some (.int a), some (.int b), some (.int c), some (.int e)], [.int ((σ 42 (Int32.toNatClampNeg b)) / 2)], σ)) (ins_l hw_134 rfl) rfl (by simp only [stp, p2, q2]; rw [if_neg (by decide)]) ?_
        exact PW.iret (ins_l hw_134 rfl) (Or.inl rfl) ⟨_, rfl, h⟩
      replace h := (if_neg c1).mp h
      by_cases c2 : a = 3
      · replace h := (if_pos c2).mp h
        refine PW.tswK (k := 2) (t := 82) (ins_l hw_134 rfl) c2 (by decide) (by decide) rfl rfl ?_
        refine PW.runs hw_134 rfl 3 (q := (82, [some (.ref 39), some (.int a), some (.int b), some (.int c), some (.int e)], [], σ)) (q' := (87, [some (.ref 39), some (.int a), some (.int b), some (.int c), some (.int e)], [.int b, .ref 42], σ)) rfl ?_
        obtain ⟨hb1, h⟩ := h
        refine PW.iald (n := 12) (ins_l hw_134 rfl) rfl (idx_in hb1.1 hb1.2).1 ?_
        refine PW.ifc (t := 95) (ins_l hw_134 rfl) rfl (fun hc3 => ?_) (fun hc3 => ?_)
        · replace h := (if_pos (c_leT hc3)).mp h
          refine PW.runs hw_134 rfl 1 (q := (95, [some (.ref 39), some (.int a), some (.int b), some (.int c), some (.int e)], [], σ)) (q' := (96, [some (.ref 39), some (.int a), some (.int b), some (.int c), some (.int e)], [.int 0], σ)) rfl ?_
          exact PW.iret (ins_l hw_134 rfl) (Or.inl rfl) ⟨_, rfl, h⟩
        · replace h := (if_neg (c_leF hc3)).mp h
          refine PW.runs hw_134 rfl 2 (q := (91, [some (.ref 39), some (.int a), some (.int b), some (.int c), some (.int e)], [], σ)) (q' := (96, [some (.ref 39), some (.int a), some (.int b), some (.int c), some (.int e)], [.int 1], σ)) rfl ?_
          exact PW.iret (ins_l hw_134 rfl) (Or.inl rfl) ⟨_, rfl, h⟩
      replace h := (if_neg c2).mp h
      have hD : PI 134 97 [some (.ref 39), some (.int a), some (.int b), some (.int c), some (.int e)] [] σ K := by
        refine PW.runs hw_134 rfl 3 (q := (97, [some (.ref 39), some (.int a), some (.int b), some (.int c), some (.int e)], [], σ)) (q' := (102, [some (.ref 39), some (.int a), some (.int b), some (.int c), some (.int e)], [.int b, .ref 42], σ)) rfl ?_
        obtain ⟨hb1, h⟩ := h
        refine PW.iald (n := 12) (ins_l hw_134 rfl) rfl (idx_in hb1.1 hb1.2).1 ?_
        exact PW.iret (ins_l hw_134 rfl) (Or.inl rfl) ⟨_, rfl, h⟩
      refine PW.tswD (t := 97) (ins_l hw_134 rfl) ?_ rfl hD
      have zc0 := tne c0 (k := 1) rfl
      have zc1 := tne c1 (k := 2) rfl
      have zc2 := tne c2 (k := 3) rfl
      omega
    · replace h := (if_pos (c_neF hc2)).mp h
      refine PW.runs hw_134 rfl 2 (q := (9, [some (.ref 39), some (.int a), some (.int b), some (.int c), some (.int e)], [], σ)) (q' := (11, [some (.ref 39), some (.int a), some (.int b), some (.int c), some (.int e)], [.int 4, .int a], σ)) rfl ?_
      refine PW.icm (t := 34) (ins_l hw_134 rfl) rfl (fun hc3 => ?_) (fun hc3 => ?_)
      · replace h := (if_neg (c_neT hc3)).mp h
        refine PW.runs hw_134 rfl 1 (q := (34, [some (.ref 39), some (.int a), some (.int b), some (.int c), some (.int e)], [], σ)) (q' := (35, [some (.ref 39), some (.int a), some (.int b), some (.int c), some (.int e)], [.int 0], σ)) rfl ?_
        exact PW.iret (ins_l hw_134 rfl) (Or.inl rfl) ⟨_, rfl, h⟩
      · replace h := (if_pos (c_neF hc3)).mp h
        refine PW.runs hw_134 rfl 1 (q := (14, [some (.ref 39), some (.int a), some (.int b), some (.int c), some (.int e)], [], σ)) (q' := (15, [some (.ref 39), some (.int a), some (.int b), some (.int c), some (.int e)], [.int c], σ)) rfl ?_
        refine PW.ifc (t := 34) (ins_l hw_134 rfl) rfl (fun hc4 => ?_) (fun hc4 => ?_)
        · replace h := (if_neg (c_neT hc4)).mp h
          refine PW.runs hw_134 rfl 1 (q := (34, [some (.ref 39), some (.int a), some (.int b), some (.int c), some (.int e)], [], σ)) (q' := (35, [some (.ref 39), some (.int a), some (.int b), some (.int c), some (.int e)], [.int 0], σ)) rfl ?_
          exact PW.iret (ins_l hw_134 rfl) (Or.inl rfl) ⟨_, rfl, h⟩
        · replace h := (if_pos (c_neF hc4)).mp h
          refine PW.runs hw_134 rfl 1 (q := (18, [some (.ref 39), some (.int a), some (.int b), some (.int c), some (.int e)], [], σ)) (q' := (20, [some (.ref 39), some (.int a), some (.int b), some (.int c), some (.int e)], [.int e], σ)) rfl ?_
          refine PW.ifcF (t := 34) (ins_l hw_134 rfl) rfl hc2 ?_
          refine PW.runs hw_134 rfl 3 (q := (23, [some (.ref 39), some (.int a), some (.int b), some (.int c), some (.int e)], [], σ)) (q' := (28, [some (.ref 39), some (.int a), some (.int b), some (.int c), some (.int e)], [.int b, .ref 42], σ)) rfl ?_
          obtain ⟨hb1, h⟩ := h
          refine PW.iald (n := 12) (ins_l hw_134 rfl) rfl (idx_in hb1.1 hb1.2).1 ?_
          refine PW.runs hw_134 rfl 1 (q := (29, [some (.ref 39), some (.int a), some (.int b), some (.int c), some (.int e)], [.int (σ 42 (Int32.toNatClampNeg b))], σ)) (q' := (30, [some (.ref 39), some (.int a), some (.int b), some (.int c), some (.int e)], [.int 3, .int (σ 42 (Int32.toNatClampNeg b))], σ)) rfl ?_
          refine PW.step (q := (31, [some (.ref 39), some (.int a), some (.int b), some (.int c), some (.int e)], [.int ((σ 42 (Int32.toNatClampNeg b)) / 3)], σ)) (ins_l hw_134 rfl) rfl (by simp only [stp, p2, q2]; rw [if_neg (by decide)]) ?_
          refine PW.runs hw_134 rfl 1 (q := (31, [some (.ref 39), some (.int a), some (.int b), some (.int c), some (.int e)], [.int ((σ 42 (Int32.toNatClampNeg b)) / 3)], σ)) (q' := (35, [some (.ref 39), some (.int a), some (.int b), some (.int c), some (.int e)], [.int ((σ 42 (Int32.toNatClampNeg b)) / 3)], σ)) rfl ?_
          exact PW.iret (ins_l hw_134 rfl) (Or.inl rfl) ⟨_, rfl, h⟩
theorem hw_135 : pins.getD 135 [] = pi_135 := rfl
/-! MapDutyModel.dutyOf.(II)I -/
set_option maxRecDepth 20000 in
theorem w_135 {a : Int32} {b : Int32} {σ : St} {K : Int32 → St → Prop} (h : PI 135 5 [some (.ref 39), some (.int a), some (.int b), some (.int 0), some (.int 0)] [] σ K) : CI 135 [.ref 39, .int a, .int b] σ K := by
  show PW none 135 0 [some (.ref 39), some (.int a), some (.int b), none, none] [] σ _
  refine PW.runs hw_135 rfl 4 (q := (0, [some (.ref 39), some (.int a), some (.int b), none, none], [], σ)) (q' := (5, [some (.ref 39), some (.int a), some (.int b), some (.int 0), some (.int 0)], [], σ)) rfl ?_
  exact h
set_option maxRecDepth 20000 in
theorem w_135_5 {a : Int32} {b : Int32} {x3 : Int32} {x4 : Int32} {σ : St} {K : Int32 → St → Prop} (h : (if (σ 39 1) ≤ x4 then K x3 σ else CI 110 [.int b, .int x4] σ (fun v1 σ1 => CI 110 [.int (σ1 46 10), .int x4] σ1 (fun v2 σ2 => CI 134 [.ref 39, .int a, .int x4, .int v1, .int v2] σ2 (fun v3 σ3 => PI 135 5 [some (.ref 39), some (.int a), some (.int b), some (.int (x3 + v3)), some (.int (x4 + 1))] [] σ3 K))))) : PI 135 5 [some (.ref 39), some (.int a), some (.int b), some (.int x3), some (.int x4)] [] σ K := by
  show PW none 135 5 [some (.ref 39), some (.int a), some (.int b), some (.int x3), some (.int x4)] [] σ _
  refine PW.runs hw_135 rfl 3 (q := (5, [some (.ref 39), some (.int a), some (.int b), some (.int x3), some (.int x4)], [], σ)) (q' := (11, [some (.ref 39), some (.int a), some (.int b), some (.int x3), some (.int x4)], [.int (σ 39 1), .int x4], σ)) rfl ?_
  refine PW.icm (t := 48) (ins_l hw_135 rfl) rfl (fun hc1 => ?_) (fun hc1 => ?_)
  · replace h := (if_pos (c_geT hc1)).mp h
    refine PW.runs hw_135 rfl 1 (q := (48, [some (.ref 39), some (.int a), some (.int b), some (.int x3), some (.int x4)], [], σ)) (q' := (49, [some (.ref 39), some (.int a), some (.int b), some (.int x3), some (.int x4)], [.int x3], σ)) rfl ?_
    exact PW.iret (ins_l hw_135 rfl) (Or.inl rfl) ⟨_, rfl, h⟩
  · replace h := (if_neg (c_geF hc1)).mp h
    refine PW.runs hw_135 rfl 6 (q := (14, [some (.ref 39), some (.int a), some (.int b), some (.int x3), some (.int x4)], [], σ)) (q' := (22, [some (.ref 39), some (.int a), some (.int b), some (.int x3), some (.int x4)], [.int x4, .int b, .int x4, .int a, .ref 39, .int x3], σ)) rfl ?_
    refine PW.callS (vs := [.int b, .int x4]) (rest := [.int x4, .int a, .ref 39, .int x3]) (ins_l hw_135 rfl) rfl (Or.inl rfl) rfl (Nat.le_of_ble_eq_true rfl) (Nat.le_of_ble_eq_true rfl) (PW.mono h ?_)
    rintro _ σ1 ⟨v1, rfl, h⟩
    show PW none 135 25 [some (.ref 39), some (.int a), some (.int b), some (.int x3), some (.int x4)] [.int v1, .int x4, .int a, .ref 39, .int x3] σ1 _
    refine PW.runs hw_135 rfl 3 (q := (25, [some (.ref 39), some (.int a), some (.int b), some (.int x3), some (.int x4)], [.int v1, .int x4, .int a, .ref 39, .int x3], σ1)) (q' := (31, [some (.ref 39), some (.int a), some (.int b), some (.int x3), some (.int x4)], [.int 10, .ref 46, .int v1, .int x4, .int a, .ref 39, .int x3], σ1)) rfl ?_
    refine PW.iald (n := 14) (ins_l hw_135 rfl) rfl (by decide) ?_
    refine PW.runs hw_135 rfl 1 (q := (32, [some (.ref 39), some (.int a), some (.int b), some (.int x3), some (.int x4)], [.int (σ1 46 10), .int v1, .int x4, .int a, .ref 39, .int x3], σ1)) (q' := (34, [some (.ref 39), some (.int a), some (.int b), some (.int x3), some (.int x4)], [.int x4, .int (σ1 46 10), .int v1, .int x4, .int a, .ref 39, .int x3], σ1)) rfl ?_
    refine PW.callS (vs := [.int (σ1 46 10), .int x4]) (rest := [.int v1, .int x4, .int a, .ref 39, .int x3]) (ins_l hw_135 rfl) rfl (Or.inl rfl) rfl (Nat.le_of_ble_eq_true rfl) (Nat.le_of_ble_eq_true rfl) (PW.mono h ?_)
    rintro _ σ2 ⟨v2, rfl, h⟩
    show PW none 135 37 [some (.ref 39), some (.int a), some (.int b), some (.int x3), some (.int x4)] [.int v2, .int v1, .int x4, .int a, .ref 39, .int x3] σ2 _
    refine PW.callV (b := 39) (vs := [.int a, .int x4, .int v1, .int v2]) (rest := [.int x3]) (ins_l hw_135 rfl) rfl rfl rfl (Nat.le_of_ble_eq_true rfl) (Nat.le_of_ble_eq_true rfl) (PW.mono h ?_)
    rintro _ σ3 ⟨v3, rfl, h⟩
    show PW none 135 40 [some (.ref 39), some (.int a), some (.int b), some (.int x3), some (.int x4)] [.int v3, .int x3] σ3 _
    refine PW.runs hw_135 rfl 4 (q := (40, [some (.ref 39), some (.int a), some (.int b), some (.int x3), some (.int x4)], [.int v3, .int x3], σ3)) (q' := (5, [some (.ref 39), some (.int a), some (.int b), some (.int (x3 + v3)), some (.int (x4 + 1))], [], σ3)) rfl ?_
    exact h
theorem hw_159 : pins.getD 159 [] = pi_159 := rfl
/-! MapDutyModel.fineOf.(II)I -/
set_option maxRecDepth 20000 in
theorem w_159 {a : Int32} {b : Int32} {σ : St} {K : Int32 → St → Prop} (h : ((0 ≤ b.toInt ∧ b.toInt < 14) ∧ PI 159 13 [some (.ref 39), some (.int a), some (.int b), some (.int (σ 46 (Int32.toNatClampNeg b))), some (.int 0), some (.int 0), none, none] [] σ K)) : CI 159 [.ref 39, .int a, .int b] σ K := by
  show PW none 159 0 [some (.ref 39), some (.int a), some (.int b), none, none, none, none, none] [] σ _
  refine PW.runs hw_159 rfl 3 (q := (0, [some (.ref 39), some (.int a), some (.int b), none, none, none, none, none], [], σ)) (q' := (5, [some (.ref 39), some (.int a), some (.int b), none, none, none, none, none], [.int b, .ref 46], σ)) rfl ?_
  obtain ⟨hb1, h⟩ := h
  refine PW.iald (n := 14) (ins_l hw_159 rfl) rfl (idx_in hb1.1 hb1.2).1 ?_
  refine PW.runs hw_159 rfl 5 (q := (6, [some (.ref 39), some (.int a), some (.int b), none, none, none, none, none], [.int (σ 46 (Int32.toNatClampNeg b))], σ)) (q' := (13, [some (.ref 39), some (.int a), some (.int b), some (.int (σ 46 (Int32.toNatClampNeg b))), some (.int 0), some (.int 0), none, none], [], σ)) rfl ?_
  exact h
set_option maxRecDepth 20000 in
theorem w_159_13 {a : Int32} {b : Int32} {x3 : Int32} {x4 : Int32} {x5 : Int32} {o6 : Option Value} {o7 : Option Value} {σ : St} {K : Int32 → St → Prop} (h : ((0 ≤ a.toInt ∧ a.toInt < 4) ∧ (if (σ 45 (Int32.toNatClampNeg a)) ≤ x5 then K x4 σ else (if x3 = 0 then K x4 σ else PI 159 34 [some (.ref 39), some (.int a), some (.int b), some (.int x3), some (.int x4), some (.int x5), some (.int (-1)), some (.int 0)] [] σ K)))) : PI 159 13 [some (.ref 39), some (.int a), some (.int b), some (.int x3), some (.int x4), some (.int x5), o6, o7] [] σ K := by
  show PW none 159 13 [some (.ref 39), some (.int a), some (.int b), some (.int x3), some (.int x4), some (.int x5), o6, o7] [] σ _
  refine PW.runs hw_159 rfl 4 (q := (13, [some (.ref 39), some (.int a), some (.int b), some (.int x3), some (.int x4), some (.int x5), o6, o7], [], σ)) (q' := (20, [some (.ref 39), some (.int a), some (.int b), some (.int x3), some (.int x4), some (.int x5), o6, o7], [.int a, .ref 45, .int x5], σ)) rfl ?_
  obtain ⟨hb1, h⟩ := h
  refine PW.iald (n := 4) (ins_l hw_159 rfl) rfl (idx_in hb1.1 hb1.2).1 ?_
  refine PW.icm (t := 130) (ins_l hw_159 rfl) rfl (fun hc1 => ?_) (fun hc1 => ?_)
  · replace h := (if_pos (c_geT hc1)).mp h
    refine PW.runs hw_159 rfl 1 (q := (130, [some (.ref 39), some (.int a), some (.int b), some (.int x3), some (.int x4), some (.int x5), o6, o7], [], σ)) (q' := (132, [some (.ref 39), some (.int a), some (.int b), some (.int x3), some (.int x4), some (.int x5), o6, o7], [.int x4], σ)) rfl ?_
    exact PW.iret (ins_l hw_159 rfl) (Or.inl rfl) ⟨_, rfl, h⟩
  · replace h := (if_neg (c_geF hc1)).mp h
    refine PW.runs hw_159 rfl 1 (q := (24, [some (.ref 39), some (.int a), some (.int b), some (.int x3), some (.int x4), some (.int x5), o6, o7], [], σ)) (q' := (25, [some (.ref 39), some (.int a), some (.int b), some (.int x3), some (.int x4), some (.int x5), o6, o7], [.int x3], σ)) rfl ?_
    refine PW.ifc (t := 130) (ins_l hw_159 rfl) rfl (fun hc2 => ?_) (fun hc2 => ?_)
    · replace h := (if_pos (c_eqT hc2)).mp h
      refine PW.runs hw_159 rfl 1 (q := (130, [some (.ref 39), some (.int a), some (.int b), some (.int x3), some (.int x4), some (.int x5), o6, o7], [], σ)) (q' := (132, [some (.ref 39), some (.int a), some (.int b), some (.int x3), some (.int x4), some (.int x5), o6, o7], [.int x4], σ)) rfl ?_
      exact PW.iret (ins_l hw_159 rfl) (Or.inl rfl) ⟨_, rfl, h⟩
    · replace h := (if_neg (c_eqF hc2)).mp h
      refine PW.runs hw_159 rfl 4 (q := (28, [some (.ref 39), some (.int a), some (.int b), some (.int x3), some (.int x4), some (.int x5), o6, o7], [], σ)) (q' := (34, [some (.ref 39), some (.int a), some (.int b), some (.int x3), some (.int x4), some (.int x5), some (.int (-1)), some (.int 0)], [], σ)) rfl ?_
      exact h
set_option maxRecDepth 20000 in
theorem w_159_34 {a : Int32} {b : Int32} {x3 : Int32} {x4 : Int32} {x5 : Int32} {x6 : Int32} {x7 : Int32} {σ : St} {K : Int32 → St → Prop} (h : (if (σ 39 1) ≤ x7 then CI 110 [.int (σ 46 10), .int x6] σ (fun v1 σ1 => (if v1 = 0 then PI 159 13 [some (.ref 39), some (.int a), some (.int b), some (.int (x3 &&& ((1 <<< (x6 &&& 31)) ^^^ (-1)))), some (.int (x4 + 10)), some (.int (x5 + 1)), some (.int x6), some (.int x7)] [] σ1 K else PI 159 13 [some (.ref 39), some (.int a), some (.int b), some (.int (x3 &&& ((1 <<< (x6 &&& 31)) ^^^ (-1)))), some (.int (x4 + 0)), some (.int (x5 + 1)), some (.int x6), some (.int x7)] [] σ1 K)) else CI 110 [.int x3, .int x7] σ (fun v2 σ2 => (if v2 = 0 then PI 159 34 [some (.ref 39), some (.int a), some (.int b), some (.int x3), some (.int x4), some (.int x5), some (.int x6), some (.int (x7 + 1))] [] σ2 K else (if x6 < 0 then PI 159 34 [some (.ref 39), some (.int a), some (.int b), some (.int x3), some (.int x4), some (.int x5), some (.int x7), some (.int (x7 + 1))] [] σ2 K else ((0 ≤ x7.toInt ∧ x7.toInt < 12) ∧ ((0 ≤ x6.toInt ∧ x6.toInt < 12) ∧ (if (σ2 42 (Int32.toNatClampNeg x7)) ≤ (σ2 42 (Int32.toNatClampNeg x6)) then PI 159 34 [some (.ref 39), some (.int a), some (.int b), some (.int x3), some (.int x4), some (.int x5), some (.int x6), some (.int (x7 + 1))] [] σ2 K else PI 159 34 [some (.ref 39), some (.int a), some (.int b), some (.int x3), some (.int x4), some (.int x5), some (.int x7), some (.int (x7 + 1))] [] σ2 K)))))))) : PI 159 34 [some (.ref 39), some (.int a), some (.int b), some (.int x3), some (.int x4), some (.int x5), some (.int x6), some (.int x7)] [] σ K := by
  show PW none 159 34 [some (.ref 39), some (.int a), some (.int b), some (.int x3), some (.int x4), some (.int x5), some (.int x6), some (.int x7)] [] σ _
  refine PW.runs hw_159 rfl 3 (q := (34, [some (.ref 39), some (.int a), some (.int b), some (.int x3), some (.int x4), some (.int x5), some (.int x6), some (.int x7)], [], σ)) (q' := (40, [some (.ref 39), some (.int a), some (.int b), some (.int x3), some (.int x4), some (.int x5), some (.int x6), some (.int x7)], [.int (σ 39 1), .int x7], σ)) rfl ?_
  refine PW.icm (t := 89) (ins_l hw_159 rfl) rfl (fun hc1 => ?_) (fun hc1 => ?_)
  · replace h := (if_pos (c_geT hc1)).mp h
    refine PW.runs hw_159 rfl 12 (q := (89, [some (.ref 39), some (.int a), some (.int b), some (.int x3), some (.int x4), some (.int x5), some (.int x6), some (.int x7)], [], σ)) (q' := (106, [some (.ref 39), some (.int a), some (.int b), some (.int (x3 &&& ((1 <<< (x6 &&& 31)) ^^^ (-1)))), some (.int x4), some (.int x5), some (.int x6), some (.int x7)], [.int 10, .ref 46, .int x4], σ)) rfl ?_
    refine PW.iald (n := 14) (ins_l hw_159 rfl) rfl (by decide) ?_
    refine PW.runs hw_159 rfl 1 (q := (107, [some (.ref 39), some (.int a), some (.int b), some (.int (x3 &&& ((1 <<< (x6 &&& 31)) ^^^ (-1)))), some (.int x4), some (.int x5), some (.int x6), some (.int x7)], [.int (σ 46 10), .int x4], σ)) (q' := (109, [some (.ref 39), some (.int a), some (.int b), some (.int (x3 &&& ((1 <<< (x6 &&& 31)) ^^^ (-1)))), some (.int x4), some (.int x5), some (.int x6), some (.int x7)], [.int x6, .int (σ 46 10), .int x4], σ)) rfl ?_
    refine PW.callS (vs := [.int (σ 46 10), .int x6]) (rest := [.int x4]) (ins_l hw_159 rfl) rfl (Or.inl rfl) rfl (Nat.le_of_ble_eq_true rfl) (Nat.le_of_ble_eq_true rfl) (PW.mono h ?_)
    rintro _ σ1 ⟨v1, rfl, h⟩
    show PW none 159 112 [some (.ref 39), some (.int a), some (.int b), some (.int (x3 &&& ((1 <<< (x6 &&& 31)) ^^^ (-1)))), some (.int x4), some (.int x5), some (.int x6), some (.int x7)] [.int v1, .int x4] σ1 _
    refine PW.ifc (t := 119) (ins_l hw_159 rfl) rfl (fun hc2 => ?_) (fun hc2 => ?_)
    · replace h := (if_pos (c_eqT hc2)).mp h
      refine PW.runs hw_159 rfl 5 (q := (119, [some (.ref 39), some (.int a), some (.int b), some (.int (x3 &&& ((1 <<< (x6 &&& 31)) ^^^ (-1)))), some (.int x4), some (.int x5), some (.int x6), some (.int x7)], [.int x4], σ1)) (q' := (13, [some (.ref 39), some (.int a), some (.int b), some (.int (x3 &&& ((1 <<< (x6 &&& 31)) ^^^ (-1)))), some (.int (x4 + 10)), some (.int (x5 + 1)), some (.int x6), some (.int x7)], [], σ1)) rfl ?_
      exact h
    · replace h := (if_neg (c_eqF hc2)).mp h
      refine PW.runs hw_159 rfl 6 (q := (115, [some (.ref 39), some (.int a), some (.int b), some (.int (x3 &&& ((1 <<< (x6 &&& 31)) ^^^ (-1)))), some (.int x4), some (.int x5), some (.int x6), some (.int x7)], [.int x4], σ1)) (q' := (13, [some (.ref 39), some (.int a), some (.int b), some (.int (x3 &&& ((1 <<< (x6 &&& 31)) ^^^ (-1)))), some (.int (x4 + 0)), some (.int (x5 + 1)), some (.int x6), some (.int x7)], [], σ1)) rfl ?_
      exact h
  · replace h := (if_neg (c_geF hc1)).mp h
    refine PW.runs hw_159 rfl 2 (q := (43, [some (.ref 39), some (.int a), some (.int b), some (.int x3), some (.int x4), some (.int x5), some (.int x6), some (.int x7)], [], σ)) (q' := (46, [some (.ref 39), some (.int a), some (.int b), some (.int x3), some (.int x4), some (.int x5), some (.int x6), some (.int x7)], [.int x7, .int x3], σ)) rfl ?_
    refine PW.callS (vs := [.int x3, .int x7]) (rest := []) (ins_l hw_159 rfl) rfl (Or.inl rfl) rfl (Nat.le_of_ble_eq_true rfl) (Nat.le_of_ble_eq_true rfl) (PW.mono h ?_)
    rintro _ σ2 ⟨v2, rfl, h⟩
    show PW none 159 49 [some (.ref 39), some (.int a), some (.int b), some (.int x3), some (.int x4), some (.int x5), some (.int x6), some (.int x7)] [.int v2] σ2 _
    refine PW.ifc (t := 79) (ins_l hw_159 rfl) rfl (fun hc2 => ?_) (fun hc2 => ?_)
    · replace h := (if_pos (c_eqT hc2)).mp h
      refine PW.runs hw_159 rfl 4 (q := (79, [some (.ref 39), some (.int a), some (.int b), some (.int x3), some (.int x4), some (.int x5), some (.int x6), some (.int x7)], [], σ2)) (q' := (34, [some (.ref 39), some (.int a), some (.int b), some (.int x3), some (.int x4), some (.int x5), some (.int x6), some (.int (x7 + 1))], [], σ2)) rfl ?_
      exact h
    · replace h := (if_neg (c_eqF hc2)).mp h
      refine PW.runs hw_159 rfl 1 (q := (52, [some (.ref 39), some (.int a), some (.int b), some (.int x3), some (.int x4), some (.int x5), some (.int x6), some (.int x7)], [], σ2)) (q' := (54, [some (.ref 39), some (.int a), some (.int b), some (.int x3), some (.int x4), some (.int x5), some (.int x6), some (.int x7)], [.int x6], σ2)) rfl ?_
      refine PW.ifc (t := 74) (ins_l hw_159 rfl) rfl (fun hc3 => ?_) (fun hc3 => ?_)
      · replace h := (if_pos (c_ltT hc3)).mp h
        refine PW.runs hw_159 rfl 5 (q := (74, [some (.ref 39), some (.int a), some (.int b), some (.int x3), some (.int x4), some (.int x5), some (.int x6), some (.int x7)], [], σ2)) (q' := (34, [some (.ref 39), some (.int a), some (.int b), some (.int x3), some (.int x4), some (.int x5), some (.int x7), some (.int (x7 + 1))], [], σ2)) rfl ?_
        exact h
      · replace h := (if_neg (c_ltF hc3)).mp h
        refine PW.runs hw_159 rfl 3 (q := (57, [some (.ref 39), some (.int a), some (.int b), some (.int x3), some (.int x4), some (.int x5), some (.int x6), some (.int x7)], [], σ2)) (q' := (63, [some (.ref 39), some (.int a), some (.int b), some (.int x3), some (.int x4), some (.int x5), some (.int x6), some (.int x7)], [.int x7, .ref 42], σ2)) rfl ?_
        obtain ⟨hb1, h⟩ := h
        refine PW.iald (n := 12) (ins_l hw_159 rfl) rfl (idx_in hb1.1 hb1.2).1 ?_
        refine PW.runs hw_159 rfl 3 (q := (64, [some (.ref 39), some (.int a), some (.int b), some (.int x3), some (.int x4), some (.int x5), some (.int x6), some (.int x7)], [.int (σ2 42 (Int32.toNatClampNeg x7))], σ2)) (q' := (70, [some (.ref 39), some (.int a), some (.int b), some (.int x3), some (.int x4), some (.int x5), some (.int x6), some (.int x7)], [.int x6, .ref 42, .int (σ2 42 (Int32.toNatClampNeg x7))], σ2)) rfl ?_
        obtain ⟨hb2, h⟩ := h
        refine PW.iald (n := 12) (ins_l hw_159 rfl) rfl (idx_in hb2.1 hb2.2).1 ?_
        refine PW.icm (t := 79) (ins_l hw_159 rfl) rfl (fun hc4 => ?_) (fun hc4 => ?_)
        · replace h := (if_pos (c_leT hc4)).mp h
          refine PW.runs hw_159 rfl 4 (q := (79, [some (.ref 39), some (.int a), some (.int b), some (.int x3), some (.int x4), some (.int x5), some (.int x6), some (.int x7)], [], σ2)) (q' := (34, [some (.ref 39), some (.int a), some (.int b), some (.int x3), some (.int x4), some (.int x5), some (.int x6), some (.int (x7 + 1))], [], σ2)) rfl ?_
          exact h
        · replace h := (if_neg (c_leF hc4)).mp h
          refine PW.runs hw_159 rfl 5 (q := (74, [some (.ref 39), some (.int a), some (.int b), some (.int x3), some (.int x4), some (.int x5), some (.int x6), some (.int x7)], [], σ2)) (q' := (34, [some (.ref 39), some (.int a), some (.int b), some (.int x3), some (.int x4), some (.int x5), some (.int x7), some (.int (x7 + 1))], [], σ2)) rfl ?_
          exact h
theorem hw_178 : pins.getD 178 [] = pi_178 := rfl
/-! MapDutyModel.finds.(II)I -/
set_option maxRecDepth 20000 in
theorem w_178 {a : Int32} {b : Int32} {σ : St} {K : Int32 → St → Prop} (h : CI 116 [.ref 39, .int a] σ (fun v1 σ1 => (if v1 = 0 then K (-1000000001) σ1 else CI 115 [.ref 39, .int b] σ1 (fun v2 σ2 => (if v2 = 0 then K (-1000000001) σ2 else CI 159 [.ref 39, .int a, .int b] σ2 (fun v3 σ3 => K v3 σ3)))))) : CI 178 [.ref 39, .int a, .int b] σ K := by
  show PW none 178 0 [some (.ref 39), some (.int a), some (.int b)] [] σ _
  refine PW.runs hw_178 rfl 2 (q := (0, [some (.ref 39), some (.int a), some (.int b)], [], σ)) (q' := (2, [some (.ref 39), some (.int a), some (.int b)], [.int a, .ref 39], σ)) rfl ?_
  refine PW.callV (b := 39) (vs := [.int a]) (rest := []) (ins_l hw_178 rfl) rfl rfl rfl (Nat.le_of_ble_eq_true rfl) (Nat.le_of_ble_eq_true rfl) (PW.mono h ?_)
  rintro _ σ1 ⟨v1, rfl, h⟩
  show PW none 178 5 [some (.ref 39), some (.int a), some (.int b)] [.int v1] σ1 _
  refine PW.ifc (t := 25) (ins_l hw_178 rfl) rfl (fun hc1 => ?_) (fun hc1 => ?_)
  · replace h := (if_pos (c_eqT hc1)).mp h
    refine PW.runs hw_178 rfl 1 (q := (25, [some (.ref 39), some (.int a), some (.int b)], [], σ1)) (q' := (27, [some (.ref 39), some (.int a), some (.int b)], [.int (-1000000001)], σ1)) rfl ?_
    exact PW.iret (ins_l hw_178 rfl) (Or.inl rfl) ⟨_, rfl, h⟩
  · replace h := (if_neg (c_eqF hc1)).mp h
    refine PW.runs hw_178 rfl 2 (q := (8, [some (.ref 39), some (.int a), some (.int b)], [], σ1)) (q' := (10, [some (.ref 39), some (.int a), some (.int b)], [.int b, .ref 39], σ1)) rfl ?_
    refine PW.callV (b := 39) (vs := [.int b]) (rest := []) (ins_l hw_178 rfl) rfl rfl rfl (Nat.le_of_ble_eq_true rfl) (Nat.le_of_ble_eq_true rfl) (PW.mono h ?_)
    rintro _ σ2 ⟨v2, rfl, h⟩
    show PW none 178 13 [some (.ref 39), some (.int a), some (.int b)] [.int v2] σ2 _
    refine PW.ifc (t := 25) (ins_l hw_178 rfl) rfl (fun hc2 => ?_) (fun hc2 => ?_)
    · replace h := (if_pos (c_eqT hc2)).mp h
      refine PW.runs hw_178 rfl 1 (q := (25, [some (.ref 39), some (.int a), some (.int b)], [], σ2)) (q' := (27, [some (.ref 39), some (.int a), some (.int b)], [.int (-1000000001)], σ2)) rfl ?_
      exact PW.iret (ins_l hw_178 rfl) (Or.inl rfl) ⟨_, rfl, h⟩
    · replace h := (if_neg (c_eqF hc2)).mp h
      refine PW.runs hw_178 rfl 3 (q := (16, [some (.ref 39), some (.int a), some (.int b)], [], σ2)) (q' := (19, [some (.ref 39), some (.int a), some (.int b)], [.int b, .int a, .ref 39], σ2)) rfl ?_
      refine PW.callV (b := 39) (vs := [.int a, .int b]) (rest := []) (ins_l hw_178 rfl) rfl rfl rfl (Nat.le_of_ble_eq_true rfl) (Nat.le_of_ble_eq_true rfl) (PW.mono h ?_)
      rintro _ σ3 ⟨v3, rfl, h⟩
      show PW none 178 22 [some (.ref 39), some (.int a), some (.int b)] [.int v3] σ3 _
      refine PW.runs hw_178 rfl 1 (q := (22, [some (.ref 39), some (.int a), some (.int b)], [.int v3], σ3)) (q' := (27, [some (.ref 39), some (.int a), some (.int b)], [.int v3], σ3)) rfl ?_
      exact PW.iret (ins_l hw_178 rfl) (Or.inl rfl) ⟨_, rfl, h⟩
theorem hw_187 : pins.getD 187 [] = pi_187 := rfl
/-! MapDutyModel.judge.()I -/
set_option maxRecDepth 20000 in
theorem w_187  {σ : St} {K : Int32 → St → Prop} (h : PI 187 2 [some (.ref 39), some (.int 0)] [] σ K) : CI 187 [.ref 39] σ K := by
  show PW none 187 0 [some (.ref 39), none] [] σ _
  refine PW.runs hw_187 rfl 2 (q := (0, [some (.ref 39), none], [], σ)) (q' := (2, [some (.ref 39), some (.int 0)], [], σ)) rfl ?_
  exact h
set_option maxRecDepth 20000 in
theorem w_187_2 {x1 : Int32} {σ : St} {K : Int32 → St → Prop} (h : (if (σ 39 37) ≤ x1 then K (-1) σ else ((0 ≤ x1.toInt ∧ x1.toInt < 15) ∧ ((0 ≤ (5 + (σ 59 (Int32.toNatClampNeg x1))).toInt ∧ (5 + (σ 59 (Int32.toNatClampNeg x1))).toInt < 14) ∧ (if (σ 46 (Int32.toNatClampNeg (5 + (σ 59 (Int32.toNatClampNeg x1))))) = (σ 60 (Int32.toNatClampNeg x1)) then PI 187 2 [some (.ref 39), some (.int (x1 + 1))] [] σ K else K x1 σ))))) : PI 187 2 [some (.ref 39), some (.int x1)] [] σ K := by
  show PW none 187 2 [some (.ref 39), some (.int x1)] [] σ _
  refine PW.runs hw_187 rfl 3 (q := (2, [some (.ref 39), some (.int x1)], [], σ)) (q' := (7, [some (.ref 39), some (.int x1)], [.int (σ 39 37), .int x1], σ)) rfl ?_
  refine PW.icm (t := 40) (ins_l hw_187 rfl) rfl (fun hc1 => ?_) (fun hc1 => ?_)
  · replace h := (if_pos (c_geT hc1)).mp h
    refine PW.runs hw_187 rfl 1 (q := (40, [some (.ref 39), some (.int x1)], [], σ)) (q' := (41, [some (.ref 39), some (.int x1)], [.int (-1)], σ)) rfl ?_
    exact PW.iret (ins_l hw_187 rfl) (Or.inl rfl) ⟨_, rfl, h⟩
  · replace h := (if_neg (c_geF hc1)).mp h
    refine PW.runs hw_187 rfl 6 (q := (10, [some (.ref 39), some (.int x1)], [], σ)) (q' := (20, [some (.ref 39), some (.int x1)], [.int x1, .ref 59, .int 5, .ref 46], σ)) rfl ?_
    obtain ⟨hb1, h⟩ := h
    refine PW.iald (n := 15) (ins_l hw_187 rfl) rfl (idx_in hb1.1 hb1.2).1 ?_
    refine PW.runs hw_187 rfl 1 (q := (21, [some (.ref 39), some (.int x1)], [.int (σ 59 (Int32.toNatClampNeg x1)), .int 5, .ref 46], σ)) (q' := (22, [some (.ref 39), some (.int x1)], [.int (5 + (σ 59 (Int32.toNatClampNeg x1))), .ref 46], σ)) rfl ?_
    obtain ⟨hb2, h⟩ := h
    refine PW.iald (n := 14) (ins_l hw_187 rfl) rfl (idx_in hb2.1 hb2.2).1 ?_
    refine PW.runs hw_187 rfl 3 (q := (23, [some (.ref 39), some (.int x1)], [.int (σ 46 (Int32.toNatClampNeg (5 + (σ 59 (Int32.toNatClampNeg x1)))))], σ)) (q' := (28, [some (.ref 39), some (.int x1)], [.int x1, .ref 60, .int (σ 46 (Int32.toNatClampNeg (5 + (σ 59 (Int32.toNatClampNeg x1)))))], σ)) rfl ?_
    refine PW.iald (n := 15) (ins_l hw_187 rfl) rfl (idx_in hb1.1 hb1.2).1 ?_
    refine PW.icm (t := 34) (ins_l hw_187 rfl) rfl (fun hc2 => ?_) (fun hc2 => ?_)
    · replace h := (if_pos (c_eqT hc2)).mp h
      refine PW.runs hw_187 rfl 2 (q := (34, [some (.ref 39), some (.int x1)], [], σ)) (q' := (2, [some (.ref 39), some (.int (x1 + 1))], [], σ)) rfl ?_
      exact h
    · replace h := (if_neg (c_eqF hc2)).mp h
      refine PW.runs hw_187 rfl 1 (q := (32, [some (.ref 39), some (.int x1)], [], σ)) (q' := (33, [some (.ref 39), some (.int x1)], [.int x1], σ)) rfl ?_
      exact PW.iret (ins_l hw_187 rfl) (Or.inl rfl) ⟨_, rfl, h⟩
