/-! the state -/
/-! MapDuty$Shelf.put.(ILMapDuty$Standing;)V -/
set_option maxRecDepth 20000 in
theorem w_47_22 {a : Int32} {σ : St} {K : St → Prop} (h : (if a < 0 then K σ else (if a < (σ 22 0) then ((0 ≤ (a * 15).toInt ∧ (a * 15).toInt < 240) ∧ ((0 ≤ ((a * 15) + 1).toInt ∧ ((a * 15) + 1).toInt < 240) ∧ ((0 ≤ ((a * 15) + 2).toInt ∧ ((a * 15) + 2).toInt < 240) ∧ ((0 ≤ ((a * 15) + 3).toInt ∧ ((a * 15) + 3).toInt < 240) ∧ ((0 ≤ ((a * 15) + 4).toInt ∧ ((a * 15) + 4).toInt < 240) ∧ ((¬ (0 : Int32) < 0 ∧ ¬ (((a * 15) + 5) : Int32) < 0 ∧ ¬ (5 : Int32) < 0 ∧ 0 + 5 ≤ 5 ∧ (Int32.toNatClampNeg ((a * 15) + 5)) + 5 ≤ 240) ∧ ((¬ (0 : Int32) < 0 ∧ ¬ (((a * 15) + 10) : Int32) < 0 ∧ ¬ (5 : Int32) < 0 ∧ 0 + 5 ≤ 5 ∧ (Int32.toNatClampNeg ((a * 15) + 10)) + 5 ≤ 240) ∧ K (sr (sr (s2 (s2 (s2 (s2 (s2 σ 23 (Int32.toNatClampNeg (a * 15)) (σ 19 0)) 23 (Int32.toNatClampNeg ((a * 15) + 1)) (σ 19 1)) 23 (Int32.toNatClampNeg ((a * 15) + 2)) (σ 19 2)) 23 (Int32.toNatClampNeg ((a * 15) + 3)) (σ 19 3)) 23 (Int32.toNatClampNeg ((a * 15) + 4)) (σ 19 4)) 23 (va_cpy (σ 20) ((s2 (s2 (s2 (s2 (s2 σ 23 (Int32.toNatClampNeg (a * 15)) (σ 19 0)) 23 (Int32.toNatClampNeg ((a * 15) + 1)) (σ 19 1)) 23 (Int32.toNatClampNeg ((a * 15) + 2)) (σ 19 2)) 23 (Int32.toNatClampNeg ((a * 15) + 3)) (σ 19 3)) 23 (Int32.toNatClampNeg ((a * 15) + 4)) (σ 19 4)) 23) 0 (Int32.toNatClampNeg ((a * 15) + 5)) 5)) 23 (va_cpy (σ 21) ((sr (s2 (s2 (s2 (s2 (s2 σ 23 (Int32.toNatClampNeg (a * 15)) (σ 19 0)) 23 (Int32.toNatClampNeg ((a * 15) + 1)) (σ 19 1)) 23 (Int32.toNatClampNeg ((a * 15) + 2)) (σ 19 2)) 23 (Int32.toNatClampNeg ((a * 15) + 3)) (σ 19 3)) 23 (Int32.toNatClampNeg ((a * 15) + 4)) (σ 19 4)) 23 (va_cpy (σ 20) ((s2 (s2 (s2 (s2 (s2 σ 23 (Int32.toNatClampNeg (a * 15)) (σ 19 0)) 23 (Int32.toNatClampNeg ((a * 15) + 1)) (σ 19 1)) 23 (Int32.toNatClampNeg ((a * 15) + 2)) (σ 19 2)) 23 (Int32.toNatClampNeg ((a * 15) + 3)) (σ 19 3)) 23 (Int32.toNatClampNeg ((a * 15) + 4)) (σ 19 4)) 23) 0 (Int32.toNatClampNeg ((a * 15) + 5)) 5)) 23) 0 (Int32.toNatClampNeg ((a * 15) + 10)) 5))))))))) else K σ))) : CV 47 [.ref 22, .int a, .ref 19] σ K := by
  show PW none 47 0 [some (.ref 22), some (.int a), some (.ref 19), none] [] σ _
  refine PW.runs hw_47 rfl 1 (q := (0, [some (.ref 22), some (.int a), some (.ref 19), none], [], σ)) (q' := (1, [some (.ref 22), some (.int a), some (.ref 19), none], [.int a], σ)) rfl ?_
  refine PW.ifc (t := 12) (ins_l hw_47 rfl) rfl (fun hc1 => ?_) (fun hc1 => ?_)
  · replace h := (if_pos (c_ltT hc1)).mp h
    exact PW.vret (ins_l hw_47 rfl) rfl ⟨rfl, h⟩
  · replace h := (if_neg (c_ltF hc1)).mp h
    refine PW.runs hw_47 rfl 3 (q := (4, [some (.ref 22), some (.int a), some (.ref 19), none], [], σ)) (q' := (9, [some (.ref 22), some (.int a), some (.ref 19), none], [.int (σ 22 0), .int a], σ)) rfl ?_
    refine PW.icm (t := 13) (ins_l hw_47 rfl) rfl (fun hc2 => ?_) (fun hc2 => ?_)
    · replace h := (if_pos (c_ltT hc2)).mp h
      refine PW.runs hw_47 rfl 9 (q := (13, [some (.ref 22), some (.int a), some (.ref 19), none], [], σ)) (q' := (27, [some (.ref 22), some (.int a), some (.ref 19), some (.int (a * 15))], [.int (σ 19 0), .int (a * 15), .ref 23], σ)) rfl ?_
      obtain ⟨hb1, h⟩ := h
      refine PW.iast (n := 240) (ins_l hw_47 rfl) rfl (idx_in hb1.1 hb1.2).1 ?_
      refine PW.runs hw_47 rfl 7 (q := (28, [some (.ref 22), some (.int a), some (.ref 19), some (.int (a * 15))], [], (s2 σ 23 (Int32.toNatClampNeg (a * 15)) (σ 19 0)))) (q' := (39, [some (.ref 22), some (.int a), some (.ref 19), some (.int (a * 15))], [.int (σ 19 1), .int ((a * 15) + 1), .ref 23], (s2 σ 23 (Int32.toNatClampNeg (a * 15)) (σ 19 0)))) rfl ?_
      obtain ⟨hb2, h⟩ := h
      refine PW.iast (n := 240) (ins_l hw_47 rfl) rfl (idx_in hb2.1 hb2.2).1 ?_
      refine PW.runs hw_47 rfl 7 (q := (40, [some (.ref 22), some (.int a), some (.ref 19), some (.int (a * 15))], [], (s2 (s2 σ 23 (Int32.toNatClampNeg (a * 15)) (σ 19 0)) 23 (Int32.toNatClampNeg ((a * 15) + 1)) (σ 19 1)))) (q' := (51, [some (.ref 22), some (.int a), some (.ref 19), some (.int (a * 15))], [.int (σ 19 2), .int ((a * 15) + 2), .ref 23], (s2 (s2 σ 23 (Int32.toNatClampNeg (a * 15)) (σ 19 0)) 23 (Int32.toNatClampNeg ((a * 15) + 1)) (σ 19 1)))) rfl ?_
      obtain ⟨hb3, h⟩ := h
      refine PW.iast (n := 240) (ins_l hw_47 rfl) rfl (idx_in hb3.1 hb3.2).1 ?_
      refine PW.runs hw_47 rfl 7 (q := (52, [some (.ref 22), some (.int a), some (.ref 19), some (.int (a * 15))], [], (s2 (s2 (s2 σ 23 (Int32.toNatClampNeg (a * 15)) (σ 19 0)) 23 (Int32.toNatClampNeg ((a * 15) + 1)) (σ 19 1)) 23 (Int32.toNatClampNeg ((a * 15) + 2)) (σ 19 2)))) (q' := (63, [some (.ref 22), some (.int a), some (.ref 19), some (.int (a * 15))], [.int (σ 19 3), .int ((a * 15) + 3), .ref 23], (s2 (s2 (s2 σ 23 (Int32.toNatClampNeg (a * 15)) (σ 19 0)) 23 (Int32.toNatClampNeg ((a * 15) + 1)) (σ 19 1)) 23 (Int32.toNatClampNeg ((a * 15) + 2)) (σ 19 2)))) rfl ?_
      obtain ⟨hb4, h⟩ := h
      refine PW.iast (n := 240) (ins_l hw_47 rfl) rfl (idx_in hb4.1 hb4.2).1 ?_
      refine PW.runs hw_47 rfl 7 (q := (64, [some (.ref 22), some (.int a), some (.ref 19), some (.int (a * 15))], [], (s2 (s2 (s2 (s2 σ 23 (Int32.toNatClampNeg (a * 15)) (σ 19 0)) 23 (Int32.toNatClampNeg ((a * 15) + 1)) (σ 19 1)) 23 (Int32.toNatClampNeg ((a * 15) + 2)) (σ 19 2)) 23 (Int32.toNatClampNeg ((a * 15) + 3)) (σ 19 3)))) (q' := (75, [some (.ref 22), some (.int a), some (.ref 19), some (.int (a * 15))], [.int (σ 19 4), .int ((a * 15) + 4), .ref 23], (s2 (s2 (s2 (s2 σ 23 (Int32.toNatClampNeg (a * 15)) (σ 19 0)) 23 (Int32.toNatClampNeg ((a * 15) + 1)) (σ 19 1)) 23 (Int32.toNatClampNeg ((a * 15) + 2)) (σ 19 2)) 23 (Int32.toNatClampNeg ((a * 15) + 3)) (σ 19 3)))) rfl ?_
      obtain ⟨hb5, h⟩ := h
      refine PW.iast (n := 240) (ins_l hw_47 rfl) rfl (idx_in hb5.1 hb5.2).1 ?_
      refine PW.runs hw_47 rfl 9 (q := (76, [some (.ref 22), some (.int a), some (.ref 19), some (.int (a * 15))], [], (s2 (s2 (s2 (s2 (s2 σ 23 (Int32.toNatClampNeg (a * 15)) (σ 19 0)) 23 (Int32.toNatClampNeg ((a * 15) + 1)) (σ 19 1)) 23 (Int32.toNatClampNeg ((a * 15) + 2)) (σ 19 2)) 23 (Int32.toNatClampNeg ((a * 15) + 3)) (σ 19 3)) 23 (Int32.toNatClampNeg ((a * 15) + 4)) (σ 19 4)))) (q' := (89, [some (.ref 22), some (.int a), some (.ref 19), some (.int (a * 15))], [.int 5, .int ((a * 15) + 5), .ref 23, .int 0, .ref 20], (s2 (s2 (s2 (s2 (s2 σ 23 (Int32.toNatClampNeg (a * 15)) (σ 19 0)) 23 (Int32.toNatClampNeg ((a * 15) + 1)) (σ 19 1)) 23 (Int32.toNatClampNeg ((a * 15) + 2)) (σ 19 2)) 23 (Int32.toNatClampNeg ((a * 15) + 3)) (σ 19 3)) 23 (Int32.toNatClampNeg ((a * 15) + 4)) (σ 19 4)))) rfl ?_
      obtain ⟨hb, h⟩ := h
      refine PW.copyC (na := 5) (nb := 240) (ins_l hw_47 rfl) rfl rfl rfl hb (Nat.le_of_ble_eq_true rfl) ?_
      refine PW.runs hw_47 rfl 9 (q := (92, [some (.ref 22), some (.int a), some (.ref 19), some (.int (a * 15))], [], (sr (s2 (s2 (s2 (s2 (s2 σ 23 (Int32.toNatClampNeg (a * 15)) (σ 19 0)) 23 (Int32.toNatClampNeg ((a * 15) + 1)) (σ 19 1)) 23 (Int32.toNatClampNeg ((a * 15) + 2)) (σ 19 2)) 23 (Int32.toNatClampNeg ((a * 15) + 3)) (σ 19 3)) 23 (Int32.toNatClampNeg ((a * 15) + 4)) (σ 19 4)) 23 (va_cpy (σ 20) ((s2 (s2 (s2 (s2 (s2 σ 23 (Int32.toNatClampNeg (a * 15)) (σ 19 0)) 23 (Int32.toNatClampNeg ((a * 15) + 1)) (σ 19 1)) 23 (Int32.toNatClampNeg ((a * 15) + 2)) (σ 19 2)) 23 (Int32.toNatClampNeg ((a * 15) + 3)) (σ 19 3)) 23 (Int32.toNatClampNeg ((a * 15) + 4)) (σ 19 4)) 23) 0 (Int32.toNatClampNeg ((a * 15) + 5)) 5)))) (q' := (106, [some (.ref 22), some (.int a), some (.ref 19), some (.int (a * 15))], [.int 5, .int ((a * 15) + 10), .ref 23, .int 0, .ref 21], (sr (s2 (s2 (s2 (s2 (s2 σ 23 (Int32.toNatClampNeg (a * 15)) (σ 19 0)) 23 (Int32.toNatClampNeg ((a * 15) + 1)) (σ 19 1)) 23 (Int32.toNatClampNeg ((a * 15) + 2)) (σ 19 2)) 23 (Int32.toNatClampNeg ((a * 15) + 3)) (σ 19 3)) 23 (Int32.toNatClampNeg ((a * 15) + 4)) (σ 19 4)) 23 (va_cpy (σ 20) ((s2 (s2 (s2 (s2 (s2 σ 23 (Int32.toNatClampNeg (a * 15)) (σ 19 0)) 23 (Int32.toNatClampNeg ((a * 15) + 1)) (σ 19 1)) 23 (Int32.toNatClampNeg ((a * 15) + 2)) (σ 19 2)) 23 (Int32.toNatClampNeg ((a * 15) + 3)) (σ 19 3)) 23 (Int32.toNatClampNeg ((a * 15) + 4)) (σ 19 4)) 23) 0 (Int32.toNatClampNeg ((a * 15) + 5)) 5)))) rfl ?_
      obtain ⟨hb, h⟩ := h
      refine PW.copyC (na := 5) (nb := 240) (ins_l hw_47 rfl) rfl rfl rfl hb (Nat.le_of_ble_eq_true rfl) ?_
      exact PW.vret (ins_l hw_47 rfl) rfl ⟨rfl, h⟩
    · replace h := (if_neg (c_ltF hc2)).mp h
      exact PW.vret (ins_l hw_47 rfl) rfl ⟨rfl, h⟩
/-! MapDuty$Shelf.fetch.(ILMapDuty$Standing;)V -/
set_option maxRecDepth 20000 in
theorem w_48_22 {a : Int32} {σ : St} {K : St → Prop} (h : (if a < 0 then K σ else (if a < (σ 22 0) then ((0 ≤ (a * 15).toInt ∧ (a * 15).toInt < 240) ∧ ((0 ≤ ((a * 15) + 1).toInt ∧ ((a * 15) + 1).toInt < 240) ∧ ((0 ≤ ((a * 15) + 2).toInt ∧ ((a * 15) + 2).toInt < 240) ∧ ((0 ≤ ((a * 15) + 3).toInt ∧ ((a * 15) + 3).toInt < 240) ∧ ((0 ≤ ((a * 15) + 4).toInt ∧ ((a * 15) + 4).toInt < 240) ∧ ((¬ (((a * 15) + 5) : Int32) < 0 ∧ ¬ (0 : Int32) < 0 ∧ ¬ (5 : Int32) < 0 ∧ (Int32.toNatClampNeg ((a * 15) + 5)) + 5 ≤ 240 ∧ 0 + 5 ≤ 5) ∧ ((¬ (((a * 15) + 10) : Int32) < 0 ∧ ¬ (0 : Int32) < 0 ∧ ¬ (5 : Int32) < 0 ∧ (Int32.toNatClampNeg ((a * 15) + 10)) + 5 ≤ 240 ∧ 0 + 5 ≤ 5) ∧ K (sr (sr (s2 (s2 (s2 (s2 (s2 σ 19 0 (σ 23 (Int32.toNatClampNeg (a * 15)))) 19 1 (σ 23 (Int32.toNatClampNeg ((a * 15) + 1)))) 19 2 (σ 23 (Int32.toNatClampNeg ((a * 15) + 2)))) 19 3 (σ 23 (Int32.toNatClampNeg ((a * 15) + 3)))) 19 4 (σ 23 (Int32.toNatClampNeg ((a * 15) + 4)))) 20 (va_cpy (σ 23) (σ 20) (Int32.toNatClampNeg ((a * 15) + 5)) 0 5)) 21 (va_cpy (σ 23) (σ 21) (Int32.toNatClampNeg ((a * 15) + 10)) 0 5))))))))) else K σ))) : CV 48 [.ref 22, .int a, .ref 19] σ K := by
  show PW none 48 0 [some (.ref 22), some (.int a), some (.ref 19), none] [] σ _
  refine PW.runs hw_48 rfl 1 (q := (0, [some (.ref 22), some (.int a), some (.ref 19), none], [], σ)) (q' := (1, [some (.ref 22), some (.int a), some (.ref 19), none], [.int a], σ)) rfl ?_
  refine PW.ifc (t := 12) (ins_l hw_48 rfl) rfl (fun hc1 => ?_) (fun hc1 => ?_)
  · replace h := (if_pos (c_ltT hc1)).mp h
    exact PW.vret (ins_l hw_48 rfl) rfl ⟨rfl, h⟩
  · replace h := (if_neg (c_ltF hc1)).mp h
    refine PW.runs hw_48 rfl 3 (q := (4, [some (.ref 22), some (.int a), some (.ref 19), none], [], σ)) (q' := (9, [some (.ref 22), some (.int a), some (.ref 19), none], [.int (σ 22 0), .int a], σ)) rfl ?_
    refine PW.icm (t := 13) (ins_l hw_48 rfl) rfl (fun hc2 => ?_) (fun hc2 => ?_)
    · replace h := (if_pos (c_ltT hc2)).mp h
      refine PW.runs hw_48 rfl 8 (q := (13, [some (.ref 22), some (.int a), some (.ref 19), none], [], σ)) (q' := (24, [some (.ref 22), some (.int a), some (.ref 19), some (.int (a * 15))], [.int (a * 15), .ref 23, .ref 19], σ)) rfl ?_
      obtain ⟨hb1, h⟩ := h
      refine PW.iald (n := 240) (ins_l hw_48 rfl) rfl (idx_in hb1.1 hb1.2).1 ?_
      refine PW.runs hw_48 rfl 7 (q := (25, [some (.ref 22), some (.int a), some (.ref 19), some (.int (a * 15))], [.int (σ 23 (Int32.toNatClampNeg (a * 15))), .ref 19], σ)) (q' := (36, [some (.ref 22), some (.int a), some (.ref 19), some (.int (a * 15))], [.int ((a * 15) + 1), .ref 23, .ref 19], (s2 σ 19 0 (σ 23 (Int32.toNatClampNeg (a * 15)))))) rfl ?_
      obtain ⟨hb2, h⟩ := h
      refine PW.iald (n := 240) (ins_l hw_48 rfl) rfl (idx_in hb2.1 hb2.2).1 ?_
      refine PW.runs hw_48 rfl 7 (q := (37, [some (.ref 22), some (.int a), some (.ref 19), some (.int (a * 15))], [.int (σ 23 (Int32.toNatClampNeg ((a * 15) + 1))), .ref 19], (s2 σ 19 0 (σ 23 (Int32.toNatClampNeg (a * 15)))))) (q' := (48, [some (.ref 22), some (.int a), some (.ref 19), some (.int (a * 15))], [.int ((a * 15) + 2), .ref 23, .ref 19], (s2 (s2 σ 19 0 (σ 23 (Int32.toNatClampNeg (a * 15)))) 19 1 (σ 23 (Int32.toNatClampNeg ((a * 15) + 1)))))) rfl ?_
      obtain ⟨hb3, h⟩ := h
      refine PW.iald (n := 240) (ins_l hw_48 rfl) rfl (idx_in hb3.1 hb3.2).1 ?_
      refine PW.runs hw_48 rfl 7 (q := (49, [some (.ref 22), some (.int a), some (.ref 19), some (.int (a * 15))], [.int (σ 23 (Int32.toNatClampNeg ((a * 15) + 2))), .ref 19], (s2 (s2 σ 19 0 (σ 23 (Int32.toNatClampNeg (a * 15)))) 19 1 (σ 23 (Int32.toNatClampNeg ((a * 15) + 1)))))) (q' := (60, [some (.ref 22), some (.int a), some (.ref 19), some (.int (a * 15))], [.int ((a * 15) + 3), .ref 23, .ref 19], (s2 (s2 (s2 σ 19 0 (σ 23 (Int32.toNatClampNeg (a * 15)))) 19 1 (σ 23 (Int32.toNatClampNeg ((a * 15) + 1)))) 19 2 (σ 23 (Int32.toNatClampNeg ((a * 15) + 2)))))) rfl ?_
      obtain ⟨hb4, h⟩ := h
      refine PW.iald (n := 240) (ins_l hw_48 rfl) rfl (idx_in hb4.1 hb4.2).1 ?_
      refine PW.runs hw_48 rfl 7 (q := (61, [some (.ref 22), some (.int a), some (.ref 19), some (.int (a * 15))], [.int (σ 23 (Int32.toNatClampNeg ((a * 15) + 3))), .ref 19], (s2 (s2 (s2 σ 19 0 (σ 23 (Int32.toNatClampNeg (a * 15)))) 19 1 (σ 23 (Int32.toNatClampNeg ((a * 15) + 1)))) 19 2 (σ 23 (Int32.toNatClampNeg ((a * 15) + 2)))))) (q' := (72, [some (.ref 22), some (.int a), some (.ref 19), some (.int (a * 15))], [.int ((a * 15) + 4), .ref 23, .ref 19], (s2 (s2 (s2 (s2 σ 19 0 (σ 23 (Int32.toNatClampNeg (a * 15)))) 19 1 (σ 23 (Int32.toNatClampNeg ((a * 15) + 1)))) 19 2 (σ 23 (Int32.toNatClampNeg ((a * 15) + 2)))) 19 3 (σ 23 (Int32.toNatClampNeg ((a * 15) + 3)))))) rfl ?_
      obtain ⟨hb5, h⟩ := h
      refine PW.iald (n := 240) (ins_l hw_48 rfl) rfl (idx_in hb5.1 hb5.2).1 ?_
      refine PW.runs hw_48 rfl 10 (q := (73, [some (.ref 22), some (.int a), some (.ref 19), some (.int (a * 15))], [.int (σ 23 (Int32.toNatClampNeg ((a * 15) + 4))), .ref 19], (s2 (s2 (s2 (s2 σ 19 0 (σ 23 (Int32.toNatClampNeg (a * 15)))) 19 1 (σ 23 (Int32.toNatClampNeg ((a * 15) + 1)))) 19 2 (σ 23 (Int32.toNatClampNeg ((a * 15) + 2)))) 19 3 (σ 23 (Int32.toNatClampNeg ((a * 15) + 3)))))) (q' := (89, [some (.ref 22), some (.int a), some (.ref 19), some (.int (a * 15))], [.int 5, .int 0, .ref 20, .int ((a * 15) + 5), .ref 23], (s2 (s2 (s2 (s2 (s2 σ 19 0 (σ 23 (Int32.toNatClampNeg (a * 15)))) 19 1 (σ 23 (Int32.toNatClampNeg ((a * 15) + 1)))) 19 2 (σ 23 (Int32.toNatClampNeg ((a * 15) + 2)))) 19 3 (σ 23 (Int32.toNatClampNeg ((a * 15) + 3)))) 19 4 (σ 23 (Int32.toNatClampNeg ((a * 15) + 4)))))) rfl ?_
      obtain ⟨hb, h⟩ := h
      refine PW.copyC (na := 240) (nb := 5) (ins_l hw_48 rfl) rfl rfl rfl hb (Nat.le_of_ble_eq_true rfl) ?_
      refine PW.runs hw_48 rfl 9 (q := (92, [some (.ref 22), some (.int a), some (.ref 19), some (.int (a * 15))], [], (sr (s2 (s2 (s2 (s2 (s2 σ 19 0 (σ 23 (Int32.toNatClampNeg (a * 15)))) 19 1 (σ 23 (Int32.toNatClampNeg ((a * 15) + 1)))) 19 2 (σ 23 (Int32.toNatClampNeg ((a * 15) + 2)))) 19 3 (σ 23 (Int32.toNatClampNeg ((a * 15) + 3)))) 19 4 (σ 23 (Int32.toNatClampNeg ((a * 15) + 4)))) 20 (va_cpy (σ 23) (σ 20) (Int32.toNatClampNeg ((a * 15) + 5)) 0 5)))) (q' := (106, [some (.ref 22), some (.int a), some (.ref 19), some (.int (a * 15))], [.int 5, .int 0, .ref 21, .int ((a * 15) + 10), .ref 23], (sr (s2 (s2 (s2 (s2 (s2 σ 19 0 (σ 23 (Int32.toNatClampNeg (a * 15)))) 19 1 (σ 23 (Int32.toNatClampNeg ((a * 15) + 1)))) 19 2 (σ 23 (Int32.toNatClampNeg ((a * 15) + 2)))) 19 3 (σ 23 (Int32.toNatClampNeg ((a * 15) + 3)))) 19 4 (σ 23 (Int32.toNatClampNeg ((a * 15) + 4)))) 20 (va_cpy (σ 23) (σ 20) (Int32.toNatClampNeg ((a * 15) + 5)) 0 5)))) rfl ?_
      obtain ⟨hb, h⟩ := h
      refine PW.copyC (na := 240) (nb := 5) (ins_l hw_48 rfl) rfl rfl rfl hb (Nat.le_of_ble_eq_true rfl) ?_
      exact PW.vret (ins_l hw_48 rfl) rfl ⟨rfl, h⟩
    · replace h := (if_neg (c_ltF hc2)).mp h
      exact PW.vret (ins_l hw_48 rfl) rfl ⟨rfl, h⟩
theorem hw_9 : pins.getD 9 [] = pi_9 := rfl
/-! MapDuty$Past.remember.(LMapDuty$Standing;)V -/
set_option maxRecDepth 20000 in
theorem w_9  {σ : St} {K : St → Prop} (h : CV 47 [.ref 22, .int (σ 24 1), .ref 19] σ (fun σ1 => K (s2 (s2 σ1 24 1 (((σ1 24 1) + 1) - ((σ1 24 1) + 1) / 16 * 16)) 24 2 (if ((σ1 24 2) + 1) < 16 then ((σ1 24 2) + 1) else 16)))) : CV 9 [.ref 24, .ref 19] σ K := by
  show PW none 9 0 [some (.ref 24), some (.ref 19)] [] σ _
  refine PW.runs hw_9 rfl 5 (q := (0, [some (.ref 24), some (.ref 19)], [], σ)) (q' := (9, [some (.ref 24), some (.ref 19)], [.ref 19, .int (σ 24 1), .ref 22], σ)) rfl ?_
  refine PW.callV (b := 22) (vs := [.int (σ 24 1), .ref 19]) (rest := []) (ins_l hw_9 rfl) rfl rfl rfl (Nat.le_of_ble_eq_true rfl) (Nat.le_of_ble_eq_true rfl) (PW.mono h ?_)
  rintro _ σ1 ⟨rfl, h⟩
  show PW none 9 12 [some (.ref 24), some (.ref 19)] [] σ1 _
  refine PW.runs hw_9 rfl 6 (q := (12, [some (.ref 24), some (.ref 19)], [], σ1)) (q' := (21, [some (.ref 24), some (.ref 19)], [.int 16, .int ((σ1 24 1) + 1), .ref 24], σ1)) rfl ?_
  refine PW.step (q := (22, [some (.ref 24), some (.ref 19)], [.int (((σ1 24 1) + 1) - ((σ1 24 1) + 1) / 16 * 16), .ref 24], σ1)) (ins_l hw_9 rfl) rfl (by simp only [stp, p2, q2]; rw [if_neg (by decide)]) ?_
  refine PW.runs hw_9 rfl 7 (q := (22, [some (.ref 24), some (.ref 19)], [.int (((σ1 24 1) + 1) - ((σ1 24 1) + 1) / 16 * 16), .ref 24], σ1)) (q' := (34, [some (.ref 24), some (.ref 19)], [.int ((σ1 24 2) + 1), .int 16, .ref 24], (s2 σ1 24 1 (((σ1 24 1) + 1) - ((σ1 24 1) + 1) / 16 * 16)))) rfl ?_
  refine PW.min (q := (37, [some (.ref 24), some (.ref 19)], [.int (if ((σ1 24 2) + 1) < 16 then ((σ1 24 2) + 1) else 16), .ref 24], (s2 σ1 24 1 (((σ1 24 1) + 1) - ((σ1 24 1) + 1) / 16 * 16)))) (ins_l hw_9 rfl) rfl rfl ?_
  refine PW.runs hw_9 rfl 1 (q := (37, [some (.ref 24), some (.ref 19)], [.int (if ((σ1 24 2) + 1) < 16 then ((σ1 24 2) + 1) else 16), .ref 24], (s2 σ1 24 1 (((σ1 24 1) + 1) - ((σ1 24 1) + 1) / 16 * 16)))) (q' := (40, [some (.ref 24), some (.ref 19)], [], (s2 (s2 σ1 24 1 (((σ1 24 1) + 1) - ((σ1 24 1) + 1) / 16 * 16)) 24 2 (if ((σ1 24 2) + 1) < 16 then ((σ1 24 2) + 1) else 16)))) rfl ?_
  exact PW.vret (ins_l hw_9 rfl) rfl ⟨rfl, h⟩
theorem hw_10 : pins.getD 10 [] = pi_10 := rfl
/-! MapDuty$Past.recall.(LMapDuty$Standing;)V -/
set_option maxRecDepth 20000 in
theorem w_10  {σ : St} {K : St → Prop} (h : (if (σ 24 2) = 0 then K σ else CV 48 [.ref 22, .int ((((σ 24 1) + 16) - 1) - (((σ 24 1) + 16) - 1) / 16 * 16), .ref 19] (s2 (s2 σ 24 1 ((((σ 24 1) + 16) - 1) - (((σ 24 1) + 16) - 1) / 16 * 16)) 24 2 ((σ 24 2) - 1)) (fun σ1 => K σ1))) : CV 10 [.ref 24, .ref 19] σ K := by
  show PW none 10 0 [some (.ref 24), some (.ref 19)] [] σ _
  refine PW.runs hw_10 rfl 2 (q := (0, [some (.ref 24), some (.ref 19)], [], σ)) (q' := (4, [some (.ref 24), some (.ref 19)], [.int (σ 24 2)], σ)) rfl ?_
  refine PW.ifc (t := 8) (ins_l hw_10 rfl) rfl (fun hc1 => ?_) (fun hc1 => ?_)
  · replace h := (if_neg (c_neT hc1)).mp h
    refine PW.runs hw_10 rfl 8 (q := (8, [some (.ref 24), some (.ref 19)], [], σ)) (q' := (20, [some (.ref 24), some (.ref 19)], [.int 16, .int (((σ 24 1) + 16) - 1), .ref 24], σ)) rfl ?_
    refine PW.step (q := (21, [some (.ref 24), some (.ref 19)], [.int ((((σ 24 1) + 16) - 1) - (((σ 24 1) + 16) - 1) / 16 * 16), .ref 24], σ)) (ins_l hw_10 rfl) rfl (by simp only [stp, p2, q2]; rw [if_neg (by decide)]) ?_
    refine PW.runs hw_10 rfl 12 (q := (21, [some (.ref 24), some (.ref 19)], [.int ((((σ 24 1) + 16) - 1) - (((σ 24 1) + 16) - 1) / 16 * 16), .ref 24], σ)) (q' := (43, [some (.ref 24), some (.ref 19)], [.ref 19, .int ((((σ 24 1) + 16) - 1) - (((σ 24 1) + 16) - 1) / 16 * 16), .ref 22], (s2 (s2 σ 24 1 ((((σ 24 1) + 16) - 1) - (((σ 24 1) + 16) - 1) / 16 * 16)) 24 2 ((σ 24 2) - 1)))) rfl ?_
    refine PW.callV (b := 22) (vs := [.int ((((σ 24 1) + 16) - 1) - (((σ 24 1) + 16) - 1) / 16 * 16), .ref 19]) (rest := []) (ins_l hw_10 rfl) rfl rfl rfl (Nat.le_of_ble_eq_true rfl) (Nat.le_of_ble_eq_true rfl) (PW.mono h ?_)
    rintro _ σ1 ⟨rfl, h⟩
    show PW none 10 46 [some (.ref 24), some (.ref 19)] [] σ1 _
    exact PW.vret (ins_l hw_10 rfl) rfl ⟨rfl, h⟩
  · replace h := (if_pos (c_neF hc1)).mp h
    exact PW.vret (ins_l hw_10 rfl) rfl ⟨rfl, h⟩
theorem hw_85 : pins.getD 85 [] = pi_85 := rfl
/-! MapDuty.isLine.(I)Z -/
set_option maxRecDepth 20000 in
theorem w_85 {a : Int32} {σ : St} {K : Int32 → St → Prop} (h : (if a < 0 then K 0 σ else (if (σ 11 1) ≤ a then K 0 σ else (if 12 ≤ a then K 0 σ else K 1 σ)))) : CI 85 [.ref 0, .int a] σ K := by
  show PW none 85 0 [some (.ref 0), some (.int a)] [] σ _
  refine PW.runs hw_85 rfl 1 (q := (0, [some (.ref 0), some (.int a)], [], σ)) (q' := (1, [some (.ref 0), some (.int a)], [.int a], σ)) rfl ?_
  refine PW.ifc (t := 25) (ins_l hw_85 rfl) rfl (fun hc1 => ?_) (fun hc1 => ?_)
  · replace h := (if_pos (c_ltT hc1)).mp h
    refine PW.runs hw_85 rfl 1 (q := (25, [some (.ref 0), some (.int a)], [], σ)) (q' := (26, [some (.ref 0), some (.int a)], [.int 0], σ)) rfl ?_
    exact PW.iret (ins_l hw_85 rfl) (Or.inr ⟨rfl, by decide⟩) ⟨_, rfl, h⟩
  · replace h := (if_neg (c_ltF hc1)).mp h
    refine PW.runs hw_85 rfl 4 (q := (4, [some (.ref 0), some (.int a)], [], σ)) (q' := (12, [some (.ref 0), some (.int a)], [.int (σ 11 1), .int a], σ)) rfl ?_
    refine PW.icm (t := 25) (ins_l hw_85 rfl) rfl (fun hc2 => ?_) (fun hc2 => ?_)
    · replace h := (if_pos (c_geT hc2)).mp h
      refine PW.runs hw_85 rfl 1 (q := (25, [some (.ref 0), some (.int a)], [], σ)) (q' := (26, [some (.ref 0), some (.int a)], [.int 0], σ)) rfl ?_
      exact PW.iret (ins_l hw_85 rfl) (Or.inr ⟨rfl, by decide⟩) ⟨_, rfl, h⟩
    · replace h := (if_neg (c_geF hc2)).mp h
      refine PW.runs hw_85 rfl 2 (q := (15, [some (.ref 0), some (.int a)], [], σ)) (q' := (18, [some (.ref 0), some (.int a)], [.int 12, .int a], σ)) rfl ?_
      refine PW.icm (t := 25) (ins_l hw_85 rfl) rfl (fun hc3 => ?_) (fun hc3 => ?_)
      · replace h := (if_pos (c_geT hc3)).mp h
        refine PW.runs hw_85 rfl 1 (q := (25, [some (.ref 0), some (.int a)], [], σ)) (q' := (26, [some (.ref 0), some (.int a)], [.int 0], σ)) rfl ?_
        exact PW.iret (ins_l hw_85 rfl) (Or.inr ⟨rfl, by decide⟩) ⟨_, rfl, h⟩
      · replace h := (if_neg (c_geF hc3)).mp h
        refine PW.runs hw_85 rfl 2 (q := (21, [some (.ref 0), some (.int a)], [], σ)) (q' := (26, [some (.ref 0), some (.int a)], [.int 1], σ)) rfl ?_
        exact PW.iret (ins_l hw_85 rfl) (Or.inr ⟨rfl, by decide⟩) ⟨_, rfl, h⟩
theorem hw_87 : pins.getD 87 [] = pi_87 := rfl
/-! MapDuty.isInspector.(I)Z -/
set_option maxRecDepth 20000 in
theorem w_87 {a : Int32} {σ : St} {K : Int32 → St → Prop} (h : (if a < 0 then K 0 σ else (if (σ 11 3) ≤ a then K 0 σ else (if 4 ≤ a then K 0 σ else K 1 σ)))) : CI 87 [.ref 0, .int a] σ K := by
  show PW none 87 0 [some (.ref 0), some (.int a)] [] σ _
  refine PW.runs hw_87 rfl 1 (q := (0, [some (.ref 0), some (.int a)], [], σ)) (q' := (1, [some (.ref 0), some (.int a)], [.int a], σ)) rfl ?_
  refine PW.ifc (t := 24) (ins_l hw_87 rfl) rfl (fun hc1 => ?_) (fun hc1 => ?_)
  · replace h := (if_pos (c_ltT hc1)).mp h
    refine PW.runs hw_87 rfl 1 (q := (24, [some (.ref 0), some (.int a)], [], σ)) (q' := (25, [some (.ref 0), some (.int a)], [.int 0], σ)) rfl ?_
    exact PW.iret (ins_l hw_87 rfl) (Or.inr ⟨rfl, by decide⟩) ⟨_, rfl, h⟩
  · replace h := (if_neg (c_ltF hc1)).mp h
    refine PW.runs hw_87 rfl 4 (q := (4, [some (.ref 0), some (.int a)], [], σ)) (q' := (12, [some (.ref 0), some (.int a)], [.int (σ 11 3), .int a], σ)) rfl ?_
    refine PW.icm (t := 24) (ins_l hw_87 rfl) rfl (fun hc2 => ?_) (fun hc2 => ?_)
    · replace h := (if_pos (c_geT hc2)).mp h
      refine PW.runs hw_87 rfl 1 (q := (24, [some (.ref 0), some (.int a)], [], σ)) (q' := (25, [some (.ref 0), some (.int a)], [.int 0], σ)) rfl ?_
      exact PW.iret (ins_l hw_87 rfl) (Or.inr ⟨rfl, by decide⟩) ⟨_, rfl, h⟩
    · replace h := (if_neg (c_geF hc2)).mp h
      refine PW.runs hw_87 rfl 2 (q := (15, [some (.ref 0), some (.int a)], [], σ)) (q' := (17, [some (.ref 0), some (.int a)], [.int 4, .int a], σ)) rfl ?_
      refine PW.icm (t := 24) (ins_l hw_87 rfl) rfl (fun hc3 => ?_) (fun hc3 => ?_)
      · replace h := (if_pos (c_geT hc3)).mp h
        refine PW.runs hw_87 rfl 1 (q := (24, [some (.ref 0), some (.int a)], [], σ)) (q' := (25, [some (.ref 0), some (.int a)], [.int 0], σ)) rfl ?_
        exact PW.iret (ins_l hw_87 rfl) (Or.inr ⟨rfl, by decide⟩) ⟨_, rfl, h⟩
      · replace h := (if_neg (c_geF hc3)).mp h
        refine PW.runs hw_87 rfl 2 (q := (20, [some (.ref 0), some (.int a)], [], σ)) (q' := (25, [some (.ref 0), some (.int a)], [.int 1], σ)) rfl ?_
        exact PW.iret (ins_l hw_87 rfl) (Or.inr ⟨rfl, by decide⟩) ⟨_, rfl, h⟩
theorem hw_90 : pins.getD 90 [] = pi_90 := rfl
/-! MapDuty.areTwoMaps.(II)Z -/
set_option maxRecDepth 20000 in
theorem w_90 {a : Int32} {b : Int32} {σ : St} {K : Int32 → St → Prop} (h : CI 86 [.ref 0, .int a] σ (fun v1 σ1 => (if v1 = 0 then K 0 σ1 else CI 86 [.ref 0, .int b] σ1 (fun v2 σ2 => (if v2 = 0 then K 0 σ2 else (if a = b then K 0 σ2 else K 1 σ2)))))) : CI 90 [.ref 0, .int a, .int b] σ K := by
  show PW none 90 0 [some (.ref 0), some (.int a), some (.int b)] [] σ _
  refine PW.runs hw_90 rfl 2 (q := (0, [some (.ref 0), some (.int a), some (.int b)], [], σ)) (q' := (2, [some (.ref 0), some (.int a), some (.int b)], [.int a, .ref 0], σ)) rfl ?_
  refine PW.callV (b := 0) (vs := [.int a]) (rest := []) (ins_l hw_90 rfl) rfl rfl rfl (Nat.le_of_ble_eq_true rfl) (Nat.le_of_ble_eq_true rfl) (PW.mono h ?_)
  rintro _ σ1 ⟨v1, rfl, h⟩
  show PW none 90 5 [some (.ref 0), some (.int a), some (.int b)] [.int v1] σ1 _
  refine PW.ifc (t := 25) (ins_l hw_90 rfl) rfl (fun hc1 => ?_) (fun hc1 => ?_)
  · replace h := (if_pos (c_eqT hc1)).mp h
    refine PW.runs hw_90 rfl 1 (q := (25, [some (.ref 0), some (.int a), some (.int b)], [], σ1)) (q' := (26, [some (.ref 0), some (.int a), some (.int b)], [.int 0], σ1)) rfl ?_
    exact PW.iret (ins_l hw_90 rfl) (Or.inr ⟨rfl, by decide⟩) ⟨_, rfl, h⟩
  · replace h := (if_neg (c_eqF hc1)).mp h
    refine PW.runs hw_90 rfl 2 (q := (8, [some (.ref 0), some (.int a), some (.int b)], [], σ1)) (q' := (10, [some (.ref 0), some (.int a), some (.int b)], [.int b, .ref 0], σ1)) rfl ?_
    refine PW.callV (b := 0) (vs := [.int b]) (rest := []) (ins_l hw_90 rfl) rfl rfl rfl (Nat.le_of_ble_eq_true rfl) (Nat.le_of_ble_eq_true rfl) (PW.mono h ?_)
    rintro _ σ2 ⟨v2, rfl, h⟩
    show PW none 90 13 [some (.ref 0), some (.int a), some (.int b)] [.int v2] σ2 _
    refine PW.ifc (t := 25) (ins_l hw_90 rfl) rfl (fun hc2 => ?_) (fun hc2 => ?_)
    · replace h := (if_pos (c_eqT hc2)).mp h
      refine PW.runs hw_90 rfl 1 (q := (25, [some (.ref 0), some (.int a), some (.int b)], [], σ2)) (q' := (26, [some (.ref 0), some (.int a), some (.int b)], [.int 0], σ2)) rfl ?_
      exact PW.iret (ins_l hw_90 rfl) (Or.inr ⟨rfl, by decide⟩) ⟨_, rfl, h⟩
    · replace h := (if_neg (c_eqF hc2)).mp h
      refine PW.runs hw_90 rfl 2 (q := (16, [some (.ref 0), some (.int a), some (.int b)], [], σ2)) (q' := (18, [some (.ref 0), some (.int a), some (.int b)], [.int b, .int a], σ2)) rfl ?_
      refine PW.icm (t := 25) (ins_l hw_90 rfl) rfl (fun hc3 => ?_) (fun hc3 => ?_)
      · replace h := (if_pos (c_eqT hc3)).mp h
        refine PW.runs hw_90 rfl 1 (q := (25, [some (.ref 0), some (.int a), some (.int b)], [], σ2)) (q' := (26, [some (.ref 0), some (.int a), some (.int b)], [.int 0], σ2)) rfl ?_
        exact PW.iret (ins_l hw_90 rfl) (Or.inr ⟨rfl, by decide⟩) ⟨_, rfl, h⟩
      · replace h := (if_neg (c_eqF hc3)).mp h
        refine PW.runs hw_90 rfl 2 (q := (21, [some (.ref 0), some (.int a), some (.int b)], [], σ2)) (q' := (26, [some (.ref 0), some (.int a), some (.int b)], [.int 1], σ2)) rfl ?_
        exact PW.iret (ins_l hw_90 rfl) (Or.inr ⟨rfl, by decide⟩) ⟨_, rfl, h⟩
theorem hw_60 : pins.getD 60 [] = pi_60 := rfl
/-! MapDuty.draw.(IIZ)I -/
set_option maxRecDepth 20000 in
theorem w_60 {a : Int32} {b : Int32} {c : Int32} {σ : St} {K : Int32 → St → Prop} (h : CI 86 [.ref 0, .int a] σ (fun v1 σ1 => (if v1 = 0 then K (-1000000001) σ1 else CI 85 [.ref 0, .int b] σ1 (fun v2 σ2 => (if v2 = 0 then K (-1000000001) σ2 else CV 9 [.ref 24, .ref 19] σ2 (fun σ3 => ((0 ≤ a.toInt ∧ a.toInt < 5) ∧ CI 92 [.int (σ3 20 (Int32.toNatClampNeg a)), .int b] σ3 (fun v4 σ4 => CI 93 [.int (σ4 20 (Int32.toNatClampNeg a)), .int b, .int c] σ4 (fun v5 σ5 => K v4 (s2 σ5 20 (Int32.toNatClampNeg a) v5)))))))))) : CI 60 [.ref 0, .int a, .int b, .int c] σ K := by
  show PW none 60 0 [some (.ref 0), some (.int a), some (.int b), some (.int c), none] [] σ _
  refine PW.runs hw_60 rfl 2 (q := (0, [some (.ref 0), some (.int a), some (.int b), some (.int c), none], [], σ)) (q' := (2, [some (.ref 0), some (.int a), some (.int b), some (.int c), none], [.int a, .ref 0], σ)) rfl ?_
  refine PW.callV (b := 0) (vs := [.int a]) (rest := []) (ins_l hw_60 rfl) rfl rfl rfl (Nat.le_of_ble_eq_true rfl) (Nat.le_of_ble_eq_true rfl) (PW.mono h ?_)
  rintro _ σ1 ⟨v1, rfl, h⟩
  show PW none 60 5 [some (.ref 0), some (.int a), some (.int b), some (.int c), none] [.int v1] σ1 _
  refine PW.ifc (t := 16) (ins_l hw_60 rfl) rfl (fun hc1 => ?_) (fun hc1 => ?_)
  · replace h := (if_pos (c_eqT hc1)).mp h
    refine PW.runs hw_60 rfl 1 (q := (16, [some (.ref 0), some (.int a), some (.int b), some (.int c), none], [], σ1)) (q' := (18, [some (.ref 0), some (.int a), some (.int b), some (.int c), none], [.int (-1000000001)], σ1)) rfl ?_
    exact PW.iret (ins_l hw_60 rfl) (Or.inl rfl) ⟨_, rfl, h⟩
  · replace h := (if_neg (c_eqF hc1)).mp h
    refine PW.runs hw_60 rfl 2 (q := (8, [some (.ref 0), some (.int a), some (.int b), some (.int c), none], [], σ1)) (q' := (10, [some (.ref 0), some (.int a), some (.int b), some (.int c), none], [.int b, .ref 0], σ1)) rfl ?_
    refine PW.callV (b := 0) (vs := [.int b]) (rest := []) (ins_l hw_60 rfl) rfl rfl rfl (Nat.le_of_ble_eq_true rfl) (Nat.le_of_ble_eq_true rfl) (PW.mono h ?_)
    rintro _ σ2 ⟨v2, rfl, h⟩
    show PW none 60 13 [some (.ref 0), some (.int a), some (.int b), some (.int c), none] [.int v2] σ2 _
    refine PW.ifc (t := 19) (ins_l hw_60 rfl) rfl (fun hc2 => ?_) (fun hc2 => ?_)
    · replace h := (if_neg (c_neT hc2)).mp h
      refine PW.runs hw_60 rfl 4 (q := (19, [some (.ref 0), some (.int a), some (.int b), some (.int c), none], [], σ2)) (q' := (27, [some (.ref 0), some (.int a), some (.int b), some (.int c), none], [.ref 19, .ref 24], σ2)) rfl ?_
      refine PW.callV (b := 24) (vs := [.ref 19]) (rest := []) (ins_l hw_60 rfl) rfl rfl rfl (Nat.le_of_ble_eq_true rfl) (Nat.le_of_ble_eq_true rfl) (PW.mono h ?_)
      rintro _ σ3 ⟨rfl, h⟩
      show PW none 60 30 [some (.ref 0), some (.int a), some (.int b), some (.int c), none] [] σ3 _
      refine PW.runs hw_60 rfl 4 (q := (30, [some (.ref 0), some (.int a), some (.int b), some (.int c), none], [], σ3)) (q' := (38, [some (.ref 0), some (.int a), some (.int b), some (.int c), none], [.int a, .ref 20], σ3)) rfl ?_
      obtain ⟨hb1, h⟩ := h
      refine PW.iald (n := 5) (ins_l hw_60 rfl) rfl (idx_in hb1.1 hb1.2).1 ?_
      refine PW.runs hw_60 rfl 1 (q := (39, [some (.ref 0), some (.int a), some (.int b), some (.int c), none], [.int (σ3 20 (Int32.toNatClampNeg a))], σ3)) (q' := (40, [some (.ref 0), some (.int a), some (.int b), some (.int c), none], [.int b, .int (σ3 20 (Int32.toNatClampNeg a))], σ3)) rfl ?_
      refine PW.callS (vs := [.int (σ3 20 (Int32.toNatClampNeg a)), .int b]) (rest := []) (ins_l hw_60 rfl) rfl (Or.inl rfl) rfl (Nat.le_of_ble_eq_true rfl) (Nat.le_of_ble_eq_true rfl) (PW.mono h ?_)
      rintro _ σ4 ⟨v4, rfl, h⟩
      show PW none 60 43 [some (.ref 0), some (.int a), some (.int b), some (.int c), none] [.int v4] σ4 _
      refine PW.runs hw_60 rfl 9 (q := (43, [some (.ref 0), some (.int a), some (.int b), some (.int c), none], [.int v4], σ4)) (q' := (61, [some (.ref 0), some (.int a), some (.int b), some (.int c), some (.int v4)], [.int a, .ref 20, .int a, .ref 20], σ4)) rfl ?_
      refine PW.iald (n := 5) (ins_l hw_60 rfl) rfl (idx_in hb1.1 hb1.2).1 ?_
      refine PW.runs hw_60 rfl 2 (q := (62, [some (.ref 0), some (.int a), some (.int b), some (.int c), some (.int v4)], [.int (σ4 20 (Int32.toNatClampNeg a)), .int a, .ref 20], σ4)) (q' := (64, [some (.ref 0), some (.int a), some (.int b), some (.int c), some (.int v4)], [.int c, .int b, .int (σ4 20 (Int32.toNatClampNeg a)), .int a, .ref 20], σ4)) rfl ?_
      refine PW.callS (vs := [.int (σ4 20 (Int32.toNatClampNeg a)), .int b, .int c]) (rest := [.int a, .ref 20]) (ins_l hw_60 rfl) rfl (Or.inl rfl) rfl (Nat.le_of_ble_eq_true rfl) (Nat.le_of_ble_eq_true rfl) (PW.mono h ?_)
      rintro _ σ5 ⟨v5, rfl, h⟩
      show PW none 60 67 [some (.ref 0), some (.int a), some (.int b), some (.int c), some (.int v4)] [.int v5, .int a, .ref 20] σ5 _
      refine PW.iast (n := 5) (ins_l hw_60 rfl) rfl (idx_in hb1.1 hb1.2).1 ?_
      refine PW.runs hw_60 rfl 1 (q := (68, [some (.ref 0), some (.int a), some (.int b), some (.int c), some (.int v4)], [], (s2 σ5 20 (Int32.toNatClampNeg a) v5))) (q' := (70, [some (.ref 0), some (.int a), some (.int b), some (.int c), some (.int v4)], [.int v4], (s2 σ5 20 (Int32.toNatClampNeg a) v5))) rfl ?_
      exact PW.iret (ins_l hw_60 rfl) (Or.inl rfl) ⟨_, rfl, h⟩
    · replace h := (if_pos (c_neF hc2)).mp h
      refine PW.runs hw_60 rfl 1 (q := (16, [some (.ref 0), some (.int a), some (.int b), some (.int c), none], [], σ2)) (q' := (18, [some (.ref 0), some (.int a), some (.int b), some (.int c), none], [.int (-1000000001)], σ2)) rfl ?_
      exact PW.iret (ins_l hw_60 rfl) (Or.inl rfl) ⟨_, rfl, h⟩
theorem hw_61 : pins.getD 61 [] = pi_61 := rfl
/-! MapDuty.move.(IZ)I -/
set_option maxRecDepth 20000 in
theorem w_61 {a : Int32} {b : Int32} {σ : St} {K : Int32 → St → Prop} (h : CI 85 [.ref 0, .int a] σ (fun v1 σ1 => (if v1 = 0 then K (-1000000001) σ1 else CV 9 [.ref 24, .ref 19] σ1 (fun σ2 => CI 92 [.int (σ2 19 0), .int a] σ2 (fun v3 σ3 => CI 93 [.int (σ3 19 0), .int a, .int b] σ3 (fun v4 σ4 => K v3 (s2 σ4 19 0 v4))))))) : CI 61 [.ref 0, .int a, .int b] σ K := by
  show PW none 61 0 [some (.ref 0), some (.int a), some (.int b), none] [] σ _
  refine PW.runs hw_61 rfl 2 (q := (0, [some (.ref 0), some (.int a), some (.int b), none], [], σ)) (q' := (2, [some (.ref 0), some (.int a), some (.int b), none], [.int a, .ref 0], σ)) rfl ?_
  refine PW.callV (b := 0) (vs := [.int a]) (rest := []) (ins_l hw_61 rfl) rfl rfl rfl (Nat.le_of_ble_eq_true rfl) (Nat.le_of_ble_eq_true rfl) (PW.mono h ?_)
  rintro _ σ1 ⟨v1, rfl, h⟩
  show PW none 61 5 [some (.ref 0), some (.int a), some (.int b), none] [.int v1] σ1 _
  refine PW.ifc (t := 11) (ins_l hw_61 rfl) rfl (fun hc1 => ?_) (fun hc1 => ?_)
  · replace h := (if_neg (c_neT hc1)).mp h
    refine PW.runs hw_61 rfl 4 (q := (11, [some (.ref 0), some (.int a), some (.int b), none], [], σ1)) (q' := (19, [some (.ref 0), some (.int a), some (.int b), none], [.ref 19, .ref 24], σ1)) rfl ?_
    refine PW.callV (b := 24) (vs := [.ref 19]) (rest := []) (ins_l hw_61 rfl) rfl rfl rfl (Nat.le_of_ble_eq_true rfl) (Nat.le_of_ble_eq_true rfl) (PW.mono h ?_)
    rintro _ σ2 ⟨rfl, h⟩
    show PW none 61 22 [some (.ref 0), some (.int a), some (.int b), none] [] σ2 _
    refine PW.runs hw_61 rfl 4 (q := (22, [some (.ref 0), some (.int a), some (.int b), none], [], σ2)) (q' := (30, [some (.ref 0), some (.int a), some (.int b), none], [.int a, .int (σ2 19 0)], σ2)) rfl ?_
    refine PW.callS (vs := [.int (σ2 19 0), .int a]) (rest := []) (ins_l hw_61 rfl) rfl (Or.inl rfl) rfl (Nat.le_of_ble_eq_true rfl) (Nat.le_of_ble_eq_true rfl) (PW.mono h ?_)
    rintro _ σ3 ⟨v3, rfl, h⟩
    show PW none 61 33 [some (.ref 0), some (.int a), some (.int b), none] [.int v3] σ3 _
    refine PW.runs hw_61 rfl 8 (q := (33, [some (.ref 0), some (.int a), some (.int b), none], [.int v3], σ3)) (q' := (47, [some (.ref 0), some (.int a), some (.int b), some (.int v3)], [.int b, .int a, .int (σ3 19 0), .ref 19], σ3)) rfl ?_
    refine PW.callS (vs := [.int (σ3 19 0), .int a, .int b]) (rest := [.ref 19]) (ins_l hw_61 rfl) rfl (Or.inl rfl) rfl (Nat.le_of_ble_eq_true rfl) (Nat.le_of_ble_eq_true rfl) (PW.mono h ?_)
    rintro _ σ4 ⟨v4, rfl, h⟩
    show PW none 61 50 [some (.ref 0), some (.int a), some (.int b), some (.int v3)] [.int v4, .ref 19] σ4 _
    refine PW.runs hw_61 rfl 2 (q := (50, [some (.ref 0), some (.int a), some (.int b), some (.int v3)], [.int v4, .ref 19], σ4)) (q' := (54, [some (.ref 0), some (.int a), some (.int b), some (.int v3)], [.int v3], (s2 σ4 19 0 v4))) rfl ?_
    exact PW.iret (ins_l hw_61 rfl) (Or.inl rfl) ⟨_, rfl, h⟩
  · replace h := (if_pos (c_neF hc1)).mp h
    refine PW.runs hw_61 rfl 1 (q := (8, [some (.ref 0), some (.int a), some (.int b), none], [], σ1)) (q' := (10, [some (.ref 0), some (.int a), some (.int b), none], [.int (-1000000001)], σ1)) rfl ?_
    exact PW.iret (ins_l hw_61 rfl) (Or.inl rfl) ⟨_, rfl, h⟩
theorem hw_62 : pins.getD 62 [] = pi_62 := rfl
/-! MapDuty.copy.(II)I -/
set_option maxRecDepth 20000 in
theorem w_62 {a : Int32} {b : Int32} {σ : St} {K : Int32 → St → Prop} (h : CI 90 [.ref 0, .int a, .int b] σ (fun v1 σ1 => (if v1 = 0 then K (-1000000001) σ1 else CV 9 [.ref 24, .ref 19] σ1 (fun σ2 => ((0 ≤ a.toInt ∧ a.toInt < 5) ∧ ((0 ≤ b.toInt ∧ b.toInt < 5) ∧ K (σ2 20 (Int32.toNatClampNeg a)) (s2 σ2 20 (Int32.toNatClampNeg a) (σ2 20 (Int32.toNatClampNeg b))))))))) : CI 62 [.ref 0, .int a, .int b] σ K := by
  show PW none 62 0 [some (.ref 0), some (.int a), some (.int b), none] [] σ _
  refine PW.runs hw_62 rfl 3 (q := (0, [some (.ref 0), some (.int a), some (.int b), none], [], σ)) (q' := (3, [some (.ref 0), some (.int a), some (.int b), none], [.int b, .int a, .ref 0], σ)) rfl ?_
  refine PW.callV (b := 0) (vs := [.int a, .int b]) (rest := []) (ins_l hw_62 rfl) rfl rfl rfl (Nat.le_of_ble_eq_true rfl) (Nat.le_of_ble_eq_true rfl) (PW.mono h ?_)
  rintro _ σ1 ⟨v1, rfl, h⟩
  show PW none 62 6 [some (.ref 0), some (.int a), some (.int b), none] [.int v1] σ1 _
  refine PW.ifc (t := 12) (ins_l hw_62 rfl) rfl (fun hc1 => ?_) (fun hc1 => ?_)
  · replace h := (if_neg (c_neT hc1)).mp h
    refine PW.runs hw_62 rfl 4 (q := (12, [some (.ref 0), some (.int a), some (.int b), none], [], σ1)) (q' := (20, [some (.ref 0), some (.int a), some (.int b), none], [.ref 19, .ref 24], σ1)) rfl ?_
    refine PW.callV (b := 24) (vs := [.ref 19]) (rest := []) (ins_l hw_62 rfl) rfl rfl rfl (Nat.le_of_ble_eq_true rfl) (Nat.le_of_ble_eq_true rfl) (PW.mono h ?_)
    rintro _ σ2 ⟨rfl, h⟩
    show PW none 62 23 [some (.ref 0), some (.int a), some (.int b), none] [] σ2 _
    refine PW.runs hw_62 rfl 4 (q := (23, [some (.ref 0), some (.int a), some (.int b), none], [], σ2)) (q' := (31, [some (.ref 0), some (.int a), some (.int b), none], [.int a, .ref 20], σ2)) rfl ?_
    obtain ⟨hb1, h⟩ := h
    refine PW.iald (n := 5) (ins_l hw_62 rfl) rfl (idx_in hb1.1 hb1.2).1 ?_
    refine PW.runs hw_62 rfl 9 (q := (32, [some (.ref 0), some (.int a), some (.int b), none], [.int (σ2 20 (Int32.toNatClampNeg a))], σ2)) (q' := (49, [some (.ref 0), some (.int a), some (.int b), some (.int (σ2 20 (Int32.toNatClampNeg a)))], [.int b, .ref 20, .int a, .ref 20], σ2)) rfl ?_
    obtain ⟨hb2, h⟩ := h
    refine PW.iald (n := 5) (ins_l hw_62 rfl) rfl (idx_in hb2.1 hb2.2).1 ?_
    refine PW.iast (n := 5) (ins_l hw_62 rfl) rfl (idx_in hb1.1 hb1.2).1 ?_
    refine PW.runs hw_62 rfl 1 (q := (51, [some (.ref 0), some (.int a), some (.int b), some (.int (σ2 20 (Int32.toNatClampNeg a)))], [], (s2 σ2 20 (Int32.toNatClampNeg a) (σ2 20 (Int32.toNatClampNeg b))))) (q' := (52, [some (.ref 0), some (.int a), some (.int b), some (.int (σ2 20 (Int32.toNatClampNeg a)))], [.int (σ2 20 (Int32.toNatClampNeg a))], (s2 σ2 20 (Int32.toNatClampNeg a) (σ2 20 (Int32.toNatClampNeg b))))) rfl ?_
    exact PW.iret (ins_l hw_62 rfl) (Or.inl rfl) ⟨_, rfl, h⟩
  · replace h := (if_pos (c_neF hc1)).mp h
    refine PW.runs hw_62 rfl 1 (q := (9, [some (.ref 0), some (.int a), some (.int b), none], [], σ1)) (q' := (11, [some (.ref 0), some (.int a), some (.int b), none], [.int (-1000000001)], σ1)) rfl ?_
    exact PW.iret (ins_l hw_62 rfl) (Or.inl rfl) ⟨_, rfl, h⟩
theorem hw_63 : pins.getD 63 [] = pi_63 := rfl
/-! MapDuty.assess.(I)I -/
set_option maxRecDepth 20000 in
theorem w_63 {a : Int32} {σ : St} {K : Int32 → St → Prop} (h : CI 86 [.ref 0, .int a] σ (fun v1 σ1 => (if v1 = 0 then K (-1000000001) σ1 else CV 9 [.ref 24, .ref 19] σ1 (fun σ2 => ((0 ≤ a.toInt ∧ a.toInt < 5) ∧ CI 95 [.ref 0, .int a] σ2 (fun v3 σ3 => K ((σ2 21 (Int32.toNatClampNeg a)) + v3) (s2 (s2 σ3 21 (Int32.toNatClampNeg a) 0) 19 2 (if ((σ3 19 2) + ((σ2 21 (Int32.toNatClampNeg a)) + v3)) < 999999 then ((σ3 19 2) + ((σ2 21 (Int32.toNatClampNeg a)) + v3)) else 999999)))))))) : CI 63 [.ref 0, .int a] σ K := by
  show PW none 63 0 [some (.ref 0), some (.int a), none] [] σ _
  refine PW.runs hw_63 rfl 2 (q := (0, [some (.ref 0), some (.int a), none], [], σ)) (q' := (2, [some (.ref 0), some (.int a), none], [.int a, .ref 0], σ)) rfl ?_
  refine PW.callV (b := 0) (vs := [.int a]) (rest := []) (ins_l hw_63 rfl) rfl rfl rfl (Nat.le_of_ble_eq_true rfl) (Nat.le_of_ble_eq_true rfl) (PW.mono h ?_)
  rintro _ σ1 ⟨v1, rfl, h⟩
  show PW none 63 5 [some (.ref 0), some (.int a), none] [.int v1] σ1 _
  refine PW.ifc (t := 11) (ins_l hw_63 rfl) rfl (fun hc1 => ?_) (fun hc1 => ?_)
  · replace h := (if_neg (c_neT hc1)).mp h
    refine PW.runs hw_63 rfl 4 (q := (11, [some (.ref 0), some (.int a), none], [], σ1)) (q' := (19, [some (.ref 0), some (.int a), none], [.ref 19, .ref 24], σ1)) rfl ?_
    refine PW.callV (b := 24) (vs := [.ref 19]) (rest := []) (ins_l hw_63 rfl) rfl rfl rfl (Nat.le_of_ble_eq_true rfl) (Nat.le_of_ble_eq_true rfl) (PW.mono h ?_)
    rintro _ σ2 ⟨rfl, h⟩
    show PW none 63 22 [some (.ref 0), some (.int a), none] [] σ2 _
    refine PW.runs hw_63 rfl 4 (q := (22, [some (.ref 0), some (.int a), none], [], σ2)) (q' := (30, [some (.ref 0), some (.int a), none], [.int a, .ref 21], σ2)) rfl ?_
    obtain ⟨hb1, h⟩ := h
    refine PW.iald (n := 5) (ins_l hw_63 rfl) rfl (idx_in hb1.1 hb1.2).1 ?_
    refine PW.runs hw_63 rfl 2 (q := (31, [some (.ref 0), some (.int a), none], [.int (σ2 21 (Int32.toNatClampNeg a))], σ2)) (q' := (33, [some (.ref 0), some (.int a), none], [.int a, .ref 0, .int (σ2 21 (Int32.toNatClampNeg a))], σ2)) rfl ?_
    refine PW.callV (b := 0) (vs := [.int a]) (rest := [.int (σ2 21 (Int32.toNatClampNeg a))]) (ins_l hw_63 rfl) rfl rfl rfl (Nat.le_of_ble_eq_true rfl) (Nat.le_of_ble_eq_true rfl) (PW.mono h ?_)
    rintro _ σ3 ⟨v3, rfl, h⟩
    show PW none 63 36 [some (.ref 0), some (.int a), none] [.int v3, .int (σ2 21 (Int32.toNatClampNeg a))] σ3 _
    refine PW.runs hw_63 rfl 7 (q := (36, [some (.ref 0), some (.int a), none], [.int v3, .int (σ2 21 (Int32.toNatClampNeg a))], σ3)) (q' := (47, [some (.ref 0), some (.int a), some (.int ((σ2 21 (Int32.toNatClampNeg a)) + v3))], [.int 0, .int a, .ref 21], σ3)) rfl ?_
    refine PW.iast (n := 5) (ins_l hw_63 rfl) rfl (idx_in hb1.1 hb1.2).1 ?_
    refine PW.runs hw_63 rfl 8 (q := (48, [some (.ref 0), some (.int a), some (.int ((σ2 21 (Int32.toNatClampNeg a)) + v3))], [], (s2 σ3 21 (Int32.toNatClampNeg a) 0))) (q' := (63, [some (.ref 0), some (.int a), some (.int ((σ2 21 (Int32.toNatClampNeg a)) + v3))], [.int ((σ3 19 2) + ((σ2 21 (Int32.toNatClampNeg a)) + v3)), .int 999999, .ref 19], (s2 σ3 21 (Int32.toNatClampNeg a) 0))) rfl ?_
    refine PW.min (q := (66, [some (.ref 0), some (.int a), some (.int ((σ2 21 (Int32.toNatClampNeg a)) + v3))], [.int (if ((σ3 19 2) + ((σ2 21 (Int32.toNatClampNeg a)) + v3)) < 999999 then ((σ3 19 2) + ((σ2 21 (Int32.toNatClampNeg a)) + v3)) else 999999), .ref 19], (s2 σ3 21 (Int32.toNatClampNeg a) 0))) (ins_l hw_63 rfl) rfl rfl ?_
    refine PW.runs hw_63 rfl 2 (q := (66, [some (.ref 0), some (.int a), some (.int ((σ2 21 (Int32.toNatClampNeg a)) + v3))], [.int (if ((σ3 19 2) + ((σ2 21 (Int32.toNatClampNeg a)) + v3)) < 999999 then ((σ3 19 2) + ((σ2 21 (Int32.toNatClampNeg a)) + v3)) else 999999), .ref 19], (s2 σ3 21 (Int32.toNatClampNeg a) 0))) (q' := (70, [some (.ref 0), some (.int a), some (.int ((σ2 21 (Int32.toNatClampNeg a)) + v3))], [.int ((σ2 21 (Int32.toNatClampNeg a)) + v3)], (s2 (s2 σ3 21 (Int32.toNatClampNeg a) 0) 19 2 (if ((σ3 19 2) + ((σ2 21 (Int32.toNatClampNeg a)) + v3)) < 999999 then ((σ3 19 2) + ((σ2 21 (Int32.toNatClampNeg a)) + v3)) else 999999)))) rfl ?_
    exact PW.iret (ins_l hw_63 rfl) (Or.inl rfl) ⟨_, rfl, h⟩
  · replace h := (if_pos (c_neF hc1)).mp h
    refine PW.runs hw_63 rfl 1 (q := (8, [some (.ref 0), some (.int a), none], [], σ1)) (q' := (10, [some (.ref 0), some (.int a), none], [.int (-1000000001)], σ1)) rfl ?_
    exact PW.iret (ins_l hw_63 rfl) (Or.inl rfl) ⟨_, rfl, h⟩
theorem hw_64 : pins.getD 64 [] = pi_64 := rfl
/-! MapDuty.inspect.(II)I -/
set_option maxRecDepth 20000 in
theorem w_64 {a : Int32} {b : Int32} {σ : St} {K : Int32 → St → Prop} (h : CI 87 [.ref 0, .int a] σ (fun v1 σ1 => (if v1 = 0 then K (-1000000001) σ1 else CI 86 [.ref 0, .int b] σ1 (fun v2 σ2 => (if v2 = 0 then K (-1000000001) σ2 else CV 9 [.ref 24, .ref 19] σ2 (fun σ3 => CI 101 [.ref 0, .int a, .int b] σ3 (fun v4 σ4 => CV 50 [.ref 19, .int b, .int v4] σ4 (fun σ5 => K v4 σ5)))))))) : CI 64 [.ref 0, .int a, .int b] σ K := by
  show PW none 64 0 [some (.ref 0), some (.int a), some (.int b), none] [] σ _
  refine PW.runs hw_64 rfl 2 (q := (0, [some (.ref 0), some (.int a), some (.int b), none], [], σ)) (q' := (2, [some (.ref 0), some (.int a), some (.int b), none], [.int a, .ref 0], σ)) rfl ?_
  refine PW.callV (b := 0) (vs := [.int a]) (rest := []) (ins_l hw_64 rfl) rfl rfl rfl (Nat.le_of_ble_eq_true rfl) (Nat.le_of_ble_eq_true rfl) (PW.mono h ?_)
  rintro _ σ1 ⟨v1, rfl, h⟩
  show PW none 64 5 [some (.ref 0), some (.int a), some (.int b), none] [.int v1] σ1 _
  refine PW.ifc (t := 16) (ins_l hw_64 rfl) rfl (fun hc1 => ?_) (fun hc1 => ?_)
  · replace h := (if_pos (c_eqT hc1)).mp h
    refine PW.runs hw_64 rfl 1 (q := (16, [some (.ref 0), some (.int a), some (.int b), none], [], σ1)) (q' := (18, [some (.ref 0), some (.int a), some (.int b), none], [.int (-1000000001)], σ1)) rfl ?_
    exact PW.iret (ins_l hw_64 rfl) (Or.inl rfl) ⟨_, rfl, h⟩
  · replace h := (if_neg (c_eqF hc1)).mp h
    refine PW.runs hw_64 rfl 2 (q := (8, [some (.ref 0), some (.int a), some (.int b), none], [], σ1)) (q' := (10, [some (.ref 0), some (.int a), some (.int b), none], [.int b, .ref 0], σ1)) rfl ?_
    refine PW.callV (b := 0) (vs := [.int b]) (rest := []) (ins_l hw_64 rfl) rfl rfl rfl (Nat.le_of_ble_eq_true rfl) (Nat.le_of_ble_eq_true rfl) (PW.mono h ?_)
    rintro _ σ2 ⟨v2, rfl, h⟩
    show PW none 64 13 [some (.ref 0), some (.int a), some (.int b), none] [.int v2] σ2 _
    refine PW.ifc (t := 19) (ins_l hw_64 rfl) rfl (fun hc2 => ?_) (fun hc2 => ?_)
    · replace h := (if_neg (c_neT hc2)).mp h
      refine PW.runs hw_64 rfl 4 (q := (19, [some (.ref 0), some (.int a), some (.int b), none], [], σ2)) (q' := (27, [some (.ref 0), some (.int a), some (.int b), none], [.ref 19, .ref 24], σ2)) rfl ?_
      refine PW.callV (b := 24) (vs := [.ref 19]) (rest := []) (ins_l hw_64 rfl) rfl rfl rfl (Nat.le_of_ble_eq_true rfl) (Nat.le_of_ble_eq_true rfl) (PW.mono h ?_)
      rintro _ σ3 ⟨rfl, h⟩
      show PW none 64 30 [some (.ref 0), some (.int a), some (.int b), none] [] σ3 _
      refine PW.runs hw_64 rfl 3 (q := (30, [some (.ref 0), some (.int a), some (.int b), none], [], σ3)) (q' := (33, [some (.ref 0), some (.int a), some (.int b), none], [.int b, .int a, .ref 0], σ3)) rfl ?_
      refine PW.callV (b := 0) (vs := [.int a, .int b]) (rest := []) (ins_l hw_64 rfl) rfl rfl rfl (Nat.le_of_ble_eq_true rfl) (Nat.le_of_ble_eq_true rfl) (PW.mono h ?_)
      rintro _ σ4 ⟨v4, rfl, h⟩
      show PW none 64 36 [some (.ref 0), some (.int a), some (.int b), none] [.int v4] σ4 _
      refine PW.runs hw_64 rfl 5 (q := (36, [some (.ref 0), some (.int a), some (.int b), none], [.int v4], σ4)) (q' := (43, [some (.ref 0), some (.int a), some (.int b), some (.int v4)], [.int v4, .int b, .ref 19], σ4)) rfl ?_
      refine PW.callV (b := 19) (vs := [.int b, .int v4]) (rest := []) (ins_l hw_64 rfl) rfl rfl rfl (Nat.le_of_ble_eq_true rfl) (Nat.le_of_ble_eq_true rfl) (PW.mono h ?_)
      rintro _ σ5 ⟨rfl, h⟩
      show PW none 64 46 [some (.ref 0), some (.int a), some (.int b), some (.int v4)] [] σ5 _
      refine PW.runs hw_64 rfl 1 (q := (46, [some (.ref 0), some (.int a), some (.int b), some (.int v4)], [], σ5)) (q' := (47, [some (.ref 0), some (.int a), some (.int b), some (.int v4)], [.int v4], σ5)) rfl ?_
      exact PW.iret (ins_l hw_64 rfl) (Or.inl rfl) ⟨_, rfl, h⟩
    · replace h := (if_pos (c_neF hc2)).mp h
      refine PW.runs hw_64 rfl 1 (q := (16, [some (.ref 0), some (.int a), some (.int b), none], [], σ2)) (q' := (18, [some (.ref 0), some (.int a), some (.int b), none], [.int (-1000000001)], σ2)) rfl ?_
      exact PW.iret (ins_l hw_64 rfl) (Or.inl rfl) ⟨_, rfl, h⟩
theorem hw_65 : pins.getD 65 [] = pi_65 := rfl
/-! MapDuty.walk.(III)I -/
set_option maxRecDepth 20000 in
theorem w_65 {a : Int32} {b : Int32} {c : Int32} {σ : St} {K : Int32 → St → Prop} (h : CI 86 [.ref 0, .int a] σ (fun v1 σ1 => (if v1 = 0 then K (-1000000001) σ1 else CI 89 [.ref 0, .int b, .int c] σ1 (fun v2 σ2 => (if v2 = 0 then K (-1000000001) σ2 else ((0 ≤ a.toInt ∧ a.toInt < 5) ∧ CV 38 [.ref 27, .int (σ2 20 (Int32.toNatClampNeg a)), .int c] σ2 (fun σ3 => ((0 ≤ b.toInt ∧ b.toInt < 8) ∧ (if (σ3 28 (Int32.toNatClampNeg b)) = (-1) then K (-1000000003) σ3 else CV 9 [.ref 24, .ref 19] σ3 (fun σ4 => CI 43 [.ref 27, .int (σ2 20 (Int32.toNatClampNeg a)), .int (σ4 19 0), .int b] σ4 (fun v5 σ5 => (if v5 = (-1) then K 1 σ5 else K 0 (s2 σ5 19 3 (if ((σ5 19 3) + 1) < 999999 then ((σ5 19 3) + 1) else 999999)))))))))))))) : CI 65 [.ref 0, .int a, .int b, .int c] σ K := by
  show PW none 65 0 [some (.ref 0), some (.int a), some (.int b), some (.int c), none] [] σ _
  refine PW.runs hw_65 rfl 2 (q := (0, [some (.ref 0), some (.int a), some (.int b), some (.int c), none], [], σ)) (q' := (2, [some (.ref 0), some (.int a), some (.int b), some (.int c), none], [.int a, .ref 0], σ)) rfl ?_
  refine PW.callV (b := 0) (vs := [.int a]) (rest := []) (ins_l hw_65 rfl) rfl rfl rfl (Nat.le_of_ble_eq_true rfl) (Nat.le_of_ble_eq_true rfl) (PW.mono h ?_)
  rintro _ σ1 ⟨v1, rfl, h⟩
  show PW none 65 5 [some (.ref 0), some (.int a), some (.int b), some (.int c), none] [.int v1] σ1 _
  refine PW.ifc (t := 17) (ins_l hw_65 rfl) rfl (fun hc1 => ?_) (fun hc1 => ?_)
  · replace h := (if_pos (c_eqT hc1)).mp h
    refine PW.runs hw_65 rfl 1 (q := (17, [some (.ref 0), some (.int a), some (.int b), some (.int c), none], [], σ1)) (q' := (19, [some (.ref 0), some (.int a), some (.int b), some (.int c), none], [.int (-1000000001)], σ1)) rfl ?_
    exact PW.iret (ins_l hw_65 rfl) (Or.inl rfl) ⟨_, rfl, h⟩
  · replace h := (if_neg (c_eqF hc1)).mp h
    refine PW.runs hw_65 rfl 3 (q := (8, [some (.ref 0), some (.int a), some (.int b), some (.int c), none], [], σ1)) (q' := (11, [some (.ref 0), some (.int a), some (.int b), some (.int c), none], [.int c, .int b, .ref 0], σ1)) rfl ?_
    refine PW.callV (b := 0) (vs := [.int b, .int c]) (rest := []) (ins_l hw_65 rfl) rfl rfl rfl (Nat.le_of_ble_eq_true rfl) (Nat.le_of_ble_eq_true rfl) (PW.mono h ?_)
    rintro _ σ2 ⟨v2, rfl, h⟩
    show PW none 65 14 [some (.ref 0), some (.int a), some (.int b), some (.int c), none] [.int v2] σ2 _
    refine PW.ifc (t := 20) (ins_l hw_65 rfl) rfl (fun hc2 => ?_) (fun hc2 => ?_)
    · replace h := (if_neg (c_neT hc2)).mp h
      refine PW.runs hw_65 rfl 4 (q := (20, [some (.ref 0), some (.int a), some (.int b), some (.int c), none], [], σ2)) (q' := (28, [some (.ref 0), some (.int a), some (.int b), some (.int c), none], [.int a, .ref 20], σ2)) rfl ?_
      obtain ⟨hb1, h⟩ := h
      refine PW.iald (n := 5) (ins_l hw_65 rfl) rfl (idx_in hb1.1 hb1.2).1 ?_
      refine PW.runs hw_65 rfl 5 (q := (29, [some (.ref 0), some (.int a), some (.int b), some (.int c), none], [.int (σ2 20 (Int32.toNatClampNeg a))], σ2)) (q' := (38, [some (.ref 0), some (.int a), some (.int b), some (.int c), some (.int (σ2 20 (Int32.toNatClampNeg a)))], [.int c, .int (σ2 20 (Int32.toNatClampNeg a)), .ref 27], σ2)) rfl ?_
      refine PW.callV (b := 27) (vs := [.int (σ2 20 (Int32.toNatClampNeg a)), .int c]) (rest := []) (ins_l hw_65 rfl) rfl rfl rfl (Nat.le_of_ble_eq_true rfl) (Nat.le_of_ble_eq_true rfl) (PW.mono h ?_)
      rintro _ σ3 ⟨rfl, h⟩
      show PW none 65 41 [some (.ref 0), some (.int a), some (.int b), some (.int c), some (.int (σ2 20 (Int32.toNatClampNeg a)))] [] σ3 _
      refine PW.runs hw_65 rfl 4 (q := (41, [some (.ref 0), some (.int a), some (.int b), some (.int c), some (.int (σ2 20 (Int32.toNatClampNeg a)))], [], σ3)) (q' := (49, [some (.ref 0), some (.int a), some (.int b), some (.int c), some (.int (σ2 20 (Int32.toNatClampNeg a)))], [.int b, .ref 28], σ3)) rfl ?_
      obtain ⟨hb2, h⟩ := h
      refine PW.iald (n := 8) (ins_l hw_65 rfl) rfl (idx_in hb2.1 hb2.2).1 ?_
      refine PW.runs hw_65 rfl 1 (q := (50, [some (.ref 0), some (.int a), some (.int b), some (.int c), some (.int (σ2 20 (Int32.toNatClampNeg a)))], [.int (σ3 28 (Int32.toNatClampNeg b))], σ3)) (q' := (51, [some (.ref 0), some (.int a), some (.int b), some (.int c), some (.int (σ2 20 (Int32.toNatClampNeg a)))], [.int (-1), .int (σ3 28 (Int32.toNatClampNeg b))], σ3)) rfl ?_
      refine PW.icm (t := 57) (ins_l hw_65 rfl) rfl (fun hc3 => ?_) (fun hc3 => ?_)
      · replace h := (if_neg (c_neT hc3)).mp h
        refine PW.runs hw_65 rfl 4 (q := (57, [some (.ref 0), some (.int a), some (.int b), some (.int c), some (.int (σ2 20 (Int32.toNatClampNeg a)))], [], σ3)) (q' := (65, [some (.ref 0), some (.int a), some (.int b), some (.int c), some (.int (σ2 20 (Int32.toNatClampNeg a)))], [.ref 19, .ref 24], σ3)) rfl ?_
        refine PW.callV (b := 24) (vs := [.ref 19]) (rest := []) (ins_l hw_65 rfl) rfl rfl rfl (Nat.le_of_ble_eq_true rfl) (Nat.le_of_ble_eq_true rfl) (PW.mono h ?_)
        rintro _ σ4 ⟨rfl, h⟩
        show PW none 65 68 [some (.ref 0), some (.int a), some (.int b), some (.int c), some (.int (σ2 20 (Int32.toNatClampNeg a)))] [] σ4 _
        refine PW.runs hw_65 rfl 7 (q := (68, [some (.ref 0), some (.int a), some (.int b), some (.int c), some (.int (σ2 20 (Int32.toNatClampNeg a)))], [], σ4)) (q' := (82, [some (.ref 0), some (.int a), some (.int b), some (.int c), some (.int (σ2 20 (Int32.toNatClampNeg a)))], [.int b, .int (σ4 19 0), .int (σ2 20 (Int32.toNatClampNeg a)), .ref 27], σ4)) rfl ?_
        refine PW.callV (b := 27) (vs := [.int (σ2 20 (Int32.toNatClampNeg a)), .int (σ4 19 0), .int b]) (rest := []) (ins_l hw_65 rfl) rfl rfl rfl (Nat.le_of_ble_eq_true rfl) (Nat.le_of_ble_eq_true rfl) (PW.mono h ?_)
        rintro _ σ5 ⟨v5, rfl, h⟩
        show PW none 65 85 [some (.ref 0), some (.int a), some (.int b), some (.int c), some (.int (σ2 20 (Int32.toNatClampNeg a)))] [.int v5] σ5 _
        refine PW.runs hw_65 rfl 1 (q := (85, [some (.ref 0), some (.int a), some (.int b), some (.int c), some (.int (σ2 20 (Int32.toNatClampNeg a)))], [.int v5], σ5)) (q' := (86, [some (.ref 0), some (.int a), some (.int b), some (.int c), some (.int (σ2 20 (Int32.toNatClampNeg a)))], [.int (-1), .int v5], σ5)) rfl ?_
        refine PW.icm (t := 91) (ins_l hw_65 rfl) rfl (fun hc4 => ?_) (fun hc4 => ?_)
        · replace h := (if_neg (c_neT hc4)).mp h
          refine PW.runs hw_65 rfl 8 (q := (91, [some (.ref 0), some (.int a), some (.int b), some (.int c), some (.int (σ2 20 (Int32.toNatClampNeg a)))], [], σ5)) (q' := (106, [some (.ref 0), some (.int a), some (.int b), some (.int c), some (.int (σ2 20 (Int32.toNatClampNeg a)))], [.int ((σ5 19 3) + 1), .int 999999, .ref 19], σ5)) rfl ?_
          refine PW.min (q := (109, [some (.ref 0), some (.int a), some (.int b), some (.int c), some (.int (σ2 20 (Int32.toNatClampNeg a)))], [.int (if ((σ5 19 3) + 1) < 999999 then ((σ5 19 3) + 1) else 999999), .ref 19], σ5)) (ins_l hw_65 rfl) rfl rfl ?_
          refine PW.runs hw_65 rfl 2 (q := (109, [some (.ref 0), some (.int a), some (.int b), some (.int c), some (.int (σ2 20 (Int32.toNatClampNeg a)))], [.int (if ((σ5 19 3) + 1) < 999999 then ((σ5 19 3) + 1) else 999999), .ref 19], σ5)) (q' := (113, [some (.ref 0), some (.int a), some (.int b), some (.int c), some (.int (σ2 20 (Int32.toNatClampNeg a)))], [.int 0], (s2 σ5 19 3 (if ((σ5 19 3) + 1) < 999999 then ((σ5 19 3) + 1) else 999999)))) rfl ?_
          exact PW.iret (ins_l hw_65 rfl) (Or.inl rfl) ⟨_, rfl, h⟩
        · replace h := (if_pos (c_neF hc4)).mp h
          refine PW.runs hw_65 rfl 1 (q := (89, [some (.ref 0), some (.int a), some (.int b), some (.int c), some (.int (σ2 20 (Int32.toNatClampNeg a)))], [], σ5)) (q' := (90, [some (.ref 0), some (.int a), some (.int b), some (.int c), some (.int (σ2 20 (Int32.toNatClampNeg a)))], [.int 1], σ5)) rfl ?_
          exact PW.iret (ins_l hw_65 rfl) (Or.inl rfl) ⟨_, rfl, h⟩
      · replace h := (if_pos (c_neF hc3)).mp h
        refine PW.runs hw_65 rfl 1 (q := (54, [some (.ref 0), some (.int a), some (.int b), some (.int c), some (.int (σ2 20 (Int32.toNatClampNeg a)))], [], σ3)) (q' := (56, [some (.ref 0), some (.int a), some (.int b), some (.int c), some (.int (σ2 20 (Int32.toNatClampNeg a)))], [.int (-1000000003)], σ3)) rfl ?_
        exact PW.iret (ins_l hw_65 rfl) (Or.inl rfl) ⟨_, rfl, h⟩
    · replace h := (if_pos (c_neF hc2)).mp h
      refine PW.runs hw_65 rfl 1 (q := (17, [some (.ref 0), some (.int a), some (.int b), some (.int c), none], [], σ2)) (q' := (19, [some (.ref 0), some (.int a), some (.int b), some (.int c), none], [.int (-1000000001)], σ2)) rfl ?_
      exact PW.iret (ins_l hw_65 rfl) (Or.inl rfl) ⟨_, rfl, h⟩
theorem hw_66 : pins.getD 66 [] = pi_66 := rfl
/-! MapDuty.day.(I)I -/
set_option maxRecDepth 20000 in
theorem w_66 {a : Int32} {σ : St} {K : Int32 → St → Prop} (h : CI 102 [.ref 0, .int a] σ (fun v1 σ1 => (if v1 = 0 then CV 9 [.ref 24, .ref 19] σ1 (fun σ2 => PI 66 25 [some (.ref 0), some (.int a), some (.int v1), some (.int 0)] [] σ2 K) else K v1 σ1))) : CI 66 [.ref 0, .int a] σ K := by
  show PW none 66 0 [some (.ref 0), some (.int a), none, none] [] σ _
  refine PW.runs hw_66 rfl 2 (q := (0, [some (.ref 0), some (.int a), none, none], [], σ)) (q' := (2, [some (.ref 0), some (.int a), none, none], [.int a, .ref 0], σ)) rfl ?_
  refine PW.callV (b := 0) (vs := [.int a]) (rest := []) (ins_l hw_66 rfl) rfl rfl rfl (Nat.le_of_ble_eq_true rfl) (Nat.le_of_ble_eq_true rfl) (PW.mono h ?_)
  rintro _ σ1 ⟨v1, rfl, h⟩
  show PW none 66 5 [some (.ref 0), some (.int a), none, none] [.int v1] σ1 _
  refine PW.runs hw_66 rfl 2 (q := (5, [some (.ref 0), some (.int a), none, none], [.int v1], σ1)) (q' := (7, [some (.ref 0), some (.int a), some (.int v1), none], [.int v1], σ1)) rfl ?_
  refine PW.ifc (t := 12) (ins_l hw_66 rfl) rfl (fun hc1 => ?_) (fun hc1 => ?_)
  · replace h := (if_pos (c_eqT hc1)).mp h
    refine PW.runs hw_66 rfl 4 (q := (12, [some (.ref 0), some (.int a), some (.int v1), none], [], σ1)) (q' := (20, [some (.ref 0), some (.int a), some (.int v1), none], [.ref 19, .ref 24], σ1)) rfl ?_
    refine PW.callV (b := 24) (vs := [.ref 19]) (rest := []) (ins_l hw_66 rfl) rfl rfl rfl (Nat.le_of_ble_eq_true rfl) (Nat.le_of_ble_eq_true rfl) (PW.mono h ?_)
    rintro _ σ2 ⟨rfl, h⟩
    show PW none 66 23 [some (.ref 0), some (.int a), some (.int v1), none] [] σ2 _
    refine PW.runs hw_66 rfl 2 (q := (23, [some (.ref 0), some (.int a), some (.int v1), none], [], σ2)) (q' := (25, [some (.ref 0), some (.int a), some (.int v1), some (.int 0)], [], σ2)) rfl ?_
    exact h
  · replace h := (if_neg (c_eqF hc1)).mp h
    refine PW.runs hw_66 rfl 1 (q := (10, [some (.ref 0), some (.int a), some (.int v1), none], [], σ1)) (q' := (11, [some (.ref 0), some (.int a), some (.int v1), none], [.int v1], σ1)) rfl ?_
    exact PW.iret (ins_l hw_66 rfl) (Or.inl rfl) ⟨_, rfl, h⟩
set_option maxRecDepth 20000 in
theorem w_66_25 {a : Int32} {x2 : Int32} {x3 : Int32} {σ : St} {K : Int32 → St → Prop} (h : (if a ≤ x3 then CI 100 [.ref 0] σ (fun v1 σ1 => K v1 σ1) else CV 103 [.ref 0] σ (fun σ2 => PI 66 25 [some (.ref 0), some (.int a), some (.int x2), some (.int (x3 + 1))] [] σ2 K))) : PI 66 25 [some (.ref 0), some (.int a), some (.int x2), some (.int x3)] [] σ K := by
  show PW none 66 25 [some (.ref 0), some (.int a), some (.int x2), some (.int x3)] [] σ _
  refine PW.runs hw_66 rfl 2 (q := (25, [some (.ref 0), some (.int a), some (.int x2), some (.int x3)], [], σ)) (q' := (27, [some (.ref 0), some (.int a), some (.int x2), some (.int x3)], [.int a, .int x3], σ)) rfl ?_
  refine PW.icm (t := 40) (ins_l hw_66 rfl) rfl (fun hc1 => ?_) (fun hc1 => ?_)
  · replace h := (if_pos (c_geT hc1)).mp h
    refine PW.runs hw_66 rfl 1 (q := (40, [some (.ref 0), some (.int a), some (.int x2), some (.int x3)], [], σ)) (q' := (41, [some (.ref 0), some (.int a), some (.int x2), some (.int x3)], [.ref 0], σ)) rfl ?_
    refine PW.callV (b := 0) (vs := []) (rest := []) (ins_l hw_66 rfl) rfl rfl rfl (Nat.le_of_ble_eq_true rfl) (Nat.le_of_ble_eq_true rfl) (PW.mono h ?_)
    rintro _ σ1 ⟨v1, rfl, h⟩
    show PW none 66 44 [some (.ref 0), some (.int a), some (.int x2), some (.int x3)] [.int v1] σ1 _
    exact PW.iret (ins_l hw_66 rfl) (Or.inl rfl) ⟨_, rfl, h⟩
  · replace h := (if_neg (c_geF hc1)).mp h
    refine PW.runs hw_66 rfl 1 (q := (30, [some (.ref 0), some (.int a), some (.int x2), some (.int x3)], [], σ)) (q' := (31, [some (.ref 0), some (.int a), some (.int x2), some (.int x3)], [.ref 0], σ)) rfl ?_
    refine PW.callV (b := 0) (vs := []) (rest := []) (ins_l hw_66 rfl) rfl rfl rfl (Nat.le_of_ble_eq_true rfl) (Nat.le_of_ble_eq_true rfl) (PW.mono h ?_)
    rintro _ σ2 ⟨rfl, h⟩
    show PW none 66 34 [some (.ref 0), some (.int a), some (.int x2), some (.int x3)] [] σ2 _
    refine PW.runs hw_66 rfl 2 (q := (34, [some (.ref 0), some (.int a), some (.int x2), some (.int x3)], [], σ2)) (q' := (25, [some (.ref 0), some (.int a), some (.int x2), some (.int (x3 + 1))], [], σ2)) rfl ?_
    exact h
theorem hw_67 : pins.getD 67 [] = pi_67 := rfl
/-! MapDuty.drift.(I)I -/
set_option maxRecDepth 20000 in
theorem w_67 {a : Int32} {σ : St} {K : Int32 → St → Prop} (h : CI 102 [.ref 0, .int a] σ (fun v1 σ1 => (if v1 = 0 then CV 9 [.ref 24, .ref 19] σ1 (fun σ2 => PI 67 25 [some (.ref 0), some (.int a), some (.int v1), some (.int 0)] [] σ2 K) else K v1 σ1))) : CI 67 [.ref 0, .int a] σ K := by
  show PW none 67 0 [some (.ref 0), some (.int a), none, none] [] σ _
  refine PW.runs hw_67 rfl 2 (q := (0, [some (.ref 0), some (.int a), none, none], [], σ)) (q' := (2, [some (.ref 0), some (.int a), none, none], [.int a, .ref 0], σ)) rfl ?_
  refine PW.callV (b := 0) (vs := [.int a]) (rest := []) (ins_l hw_67 rfl) rfl rfl rfl (Nat.le_of_ble_eq_true rfl) (Nat.le_of_ble_eq_true rfl) (PW.mono h ?_)
  rintro _ σ1 ⟨v1, rfl, h⟩
  show PW none 67 5 [some (.ref 0), some (.int a), none, none] [.int v1] σ1 _
  refine PW.runs hw_67 rfl 2 (q := (5, [some (.ref 0), some (.int a), none, none], [.int v1], σ1)) (q' := (7, [some (.ref 0), some (.int a), some (.int v1), none], [.int v1], σ1)) rfl ?_
  refine PW.ifc (t := 12) (ins_l hw_67 rfl) rfl (fun hc1 => ?_) (fun hc1 => ?_)
  · replace h := (if_pos (c_eqT hc1)).mp h
    refine PW.runs hw_67 rfl 4 (q := (12, [some (.ref 0), some (.int a), some (.int v1), none], [], σ1)) (q' := (20, [some (.ref 0), some (.int a), some (.int v1), none], [.ref 19, .ref 24], σ1)) rfl ?_
    refine PW.callV (b := 24) (vs := [.ref 19]) (rest := []) (ins_l hw_67 rfl) rfl rfl rfl (Nat.le_of_ble_eq_true rfl) (Nat.le_of_ble_eq_true rfl) (PW.mono h ?_)
    rintro _ σ2 ⟨rfl, h⟩
    show PW none 67 23 [some (.ref 0), some (.int a), some (.int v1), none] [] σ2 _
    refine PW.runs hw_67 rfl 2 (q := (23, [some (.ref 0), some (.int a), some (.int v1), none], [], σ2)) (q' := (25, [some (.ref 0), some (.int a), some (.int v1), some (.int 0)], [], σ2)) rfl ?_
    exact h
  · replace h := (if_neg (c_eqF hc1)).mp h
    refine PW.runs hw_67 rfl 1 (q := (10, [some (.ref 0), some (.int a), some (.int v1), none], [], σ1)) (q' := (11, [some (.ref 0), some (.int a), some (.int v1), none], [.int v1], σ1)) rfl ?_
    exact PW.iret (ins_l hw_67 rfl) (Or.inl rfl) ⟨_, rfl, h⟩
set_option maxRecDepth 20000 in
theorem w_67_25 {a : Int32} {x2 : Int32} {x3 : Int32} {σ : St} {K : Int32 → St → Prop} (h : (if a ≤ x3 then CI 100 [.ref 0] σ (fun v1 σ1 => K v1 σ1) else (if (σ 11 1) ≤ 0 then CV 103 [.ref 0] σ (fun σ2 => PI 67 25 [some (.ref 0), some (.int a), some (.int x2), some (.int (x3 + 1))] [] σ2 K) else CV 104 [.ref 0] σ (fun σ3 => CV 103 [.ref 0] σ3 (fun σ4 => PI 67 25 [some (.ref 0), some (.int a), some (.int x2), some (.int (x3 + 1))] [] σ4 K))))) : PI 67 25 [some (.ref 0), some (.int a), some (.int x2), some (.int x3)] [] σ K := by
  show PW none 67 25 [some (.ref 0), some (.int a), some (.int x2), some (.int x3)] [] σ _
  refine PW.runs hw_67 rfl 2 (q := (25, [some (.ref 0), some (.int a), some (.int x2), some (.int x3)], [], σ)) (q' := (27, [some (.ref 0), some (.int a), some (.int x2), some (.int x3)], [.int a, .int x3], σ)) rfl ?_
  refine PW.icm (t := 54) (ins_l hw_67 rfl) rfl (fun hc1 => ?_) (fun hc1 => ?_)
  · replace h := (if_pos (c_geT hc1)).mp h
    refine PW.runs hw_67 rfl 1 (q := (54, [some (.ref 0), some (.int a), some (.int x2), some (.int x3)], [], σ)) (q' := (55, [some (.ref 0), some (.int a), some (.int x2), some (.int x3)], [.ref 0], σ)) rfl ?_
    refine PW.callV (b := 0) (vs := []) (rest := []) (ins_l hw_67 rfl) rfl rfl rfl (Nat.le_of_ble_eq_true rfl) (Nat.le_of_ble_eq_true rfl) (PW.mono h ?_)
    rintro _ σ1 ⟨v1, rfl, h⟩
    show PW none 67 58 [some (.ref 0), some (.int a), some (.int x2), some (.int x3)] [.int v1] σ1 _
    exact PW.iret (ins_l hw_67 rfl) (Or.inl rfl) ⟨_, rfl, h⟩
  · replace h := (if_neg (c_geF hc1)).mp h
    refine PW.runs hw_67 rfl 3 (q := (30, [some (.ref 0), some (.int a), some (.int x2), some (.int x3)], [], σ)) (q' := (37, [some (.ref 0), some (.int a), some (.int x2), some (.int x3)], [.int (σ 11 1)], σ)) rfl ?_
    refine PW.ifc (t := 44) (ins_l hw_67 rfl) rfl (fun hc2 => ?_) (fun hc2 => ?_)
    · replace h := (if_pos (c_leT hc2)).mp h
      refine PW.runs hw_67 rfl 1 (q := (44, [some (.ref 0), some (.int a), some (.int x2), some (.int x3)], [], σ)) (q' := (45, [some (.ref 0), some (.int a), some (.int x2), some (.int x3)], [.ref 0], σ)) rfl ?_
      refine PW.callV (b := 0) (vs := []) (rest := []) (ins_l hw_67 rfl) rfl rfl rfl (Nat.le_of_ble_eq_true rfl) (Nat.le_of_ble_eq_true rfl) (PW.mono h ?_)
      rintro _ σ2 ⟨rfl, h⟩
      show PW none 67 48 [some (.ref 0), some (.int a), some (.int x2), some (.int x3)] [] σ2 _
      refine PW.runs hw_67 rfl 2 (q := (48, [some (.ref 0), some (.int a), some (.int x2), some (.int x3)], [], σ2)) (q' := (25, [some (.ref 0), some (.int a), some (.int x2), some (.int (x3 + 1))], [], σ2)) rfl ?_
      exact h
    · replace h := (if_neg (c_leF hc2)).mp h
      refine PW.runs hw_67 rfl 1 (q := (40, [some (.ref 0), some (.int a), some (.int x2), some (.int x3)], [], σ)) (q' := (41, [some (.ref 0), some (.int a), some (.int x2), some (.int x3)], [.ref 0], σ)) rfl ?_
      refine PW.callV (b := 0) (vs := []) (rest := []) (ins_l hw_67 rfl) rfl rfl rfl (Nat.le_of_ble_eq_true rfl) (Nat.le_of_ble_eq_true rfl) (PW.mono h ?_)
      rintro _ σ3 ⟨rfl, h⟩
      show PW none 67 44 [some (.ref 0), some (.int a), some (.int x2), some (.int x3)] [] σ3 _
      refine PW.runs hw_67 rfl 1 (q := (44, [some (.ref 0), some (.int a), some (.int x2), some (.int x3)], [], σ3)) (q' := (45, [some (.ref 0), some (.int a), some (.int x2), some (.int x3)], [.ref 0], σ3)) rfl ?_
      refine PW.callV (b := 0) (vs := []) (rest := []) (ins_l hw_67 rfl) rfl rfl rfl (Nat.le_of_ble_eq_true rfl) (Nat.le_of_ble_eq_true rfl) (PW.mono h ?_)
      rintro _ σ4 ⟨rfl, h⟩
      show PW none 67 48 [some (.ref 0), some (.int a), some (.int x2), some (.int x3)] [] σ4 _
      refine PW.runs hw_67 rfl 2 (q := (48, [some (.ref 0), some (.int a), some (.int x2), some (.int x3)], [], σ4)) (q' := (25, [some (.ref 0), some (.int a), some (.int x2), some (.int (x3 + 1))], [], σ4)) rfl ?_
      exact h
theorem hw_68 : pins.getD 68 [] = pi_68 := rfl
/-! MapDuty.undo.()I -/
set_option maxRecDepth 20000 in
theorem w_68  {σ : St} {K : Int32 → St → Prop} (h : (if (σ 24 2) = 0 then K (-1000000003) σ else CV 10 [.ref 24, .ref 19] σ (fun σ1 => K (σ1 24 2) (s2 σ1 19 4 (σ 19 4))))) : CI 68 [.ref 0] σ K := by
  show PW none 68 0 [some (.ref 0), none] [] σ _
  refine PW.runs hw_68 rfl 3 (q := (0, [some (.ref 0), none], [], σ)) (q' := (7, [some (.ref 0), none], [.int (σ 24 2)], σ)) rfl ?_
  refine PW.ifc (t := 13) (ins_l hw_68 rfl) rfl (fun hc1 => ?_) (fun hc1 => ?_)
  · replace h := (if_neg (c_neT hc1)).mp h
    refine PW.runs hw_68 rfl 8 (q := (13, [some (.ref 0), none], [], σ)) (q' := (29, [some (.ref 0), some (.int (σ 19 4))], [.ref 19, .ref 24], σ)) rfl ?_
    refine PW.callV (b := 24) (vs := [.ref 19]) (rest := []) (ins_l hw_68 rfl) rfl rfl rfl (Nat.le_of_ble_eq_true rfl) (Nat.le_of_ble_eq_true rfl) (PW.mono h ?_)
    rintro _ σ1 ⟨rfl, h⟩
    show PW none 68 32 [some (.ref 0), some (.int (σ 19 4))] [] σ1 _
    refine PW.runs hw_68 rfl 7 (q := (32, [some (.ref 0), some (.int (σ 19 4))], [], σ1)) (q' := (47, [some (.ref 0), some (.int (σ 19 4))], [.int (σ1 24 2)], (s2 σ1 19 4 (σ 19 4)))) rfl ?_
    exact PW.iret (ins_l hw_68 rfl) (Or.inl rfl) ⟨_, rfl, h⟩
  · replace h := (if_pos (c_neF hc1)).mp h
    refine PW.runs hw_68 rfl 1 (q := (10, [some (.ref 0), none], [], σ)) (q' := (12, [some (.ref 0), none], [.int (-1000000003)], σ)) rfl ?_
    exact PW.iret (ins_l hw_68 rfl) (Or.inl rfl) ⟨_, rfl, h⟩
theorem hw_73 : pins.getD 73 [] = pi_73 := rfl
/-! MapDuty.unlike.(II)I -/
set_option maxRecDepth 20000 in
theorem w_73 {a : Int32} {b : Int32} {σ : St} {K : Int32 → St → Prop} (h : CI 90 [.ref 0, .int a, .int b] σ (fun v1 σ1 => (if v1 = 0 then K (-1000000001) σ1 else ((0 ≤ a.toInt ∧ a.toInt < 5) ∧ ((0 ≤ b.toInt ∧ b.toInt < 5) ∧ K ((σ1 20 (Int32.toNatClampNeg a)) ^^^ (σ1 20 (Int32.toNatClampNeg b))) σ1))))) : CI 73 [.ref 0, .int a, .int b] σ K := by
  show PW none 73 0 [some (.ref 0), some (.int a), some (.int b)] [] σ _
  refine PW.runs hw_73 rfl 3 (q := (0, [some (.ref 0), some (.int a), some (.int b)], [], σ)) (q' := (3, [some (.ref 0), some (.int a), some (.int b)], [.int b, .int a, .ref 0], σ)) rfl ?_
  refine PW.callV (b := 0) (vs := [.int a, .int b]) (rest := []) (ins_l hw_73 rfl) rfl rfl rfl (Nat.le_of_ble_eq_true rfl) (Nat.le_of_ble_eq_true rfl) (PW.mono h ?_)
  rintro _ σ1 ⟨v1, rfl, h⟩
  show PW none 73 6 [some (.ref 0), some (.int a), some (.int b)] [.int v1] σ1 _
  refine PW.ifc (t := 12) (ins_l hw_73 rfl) rfl (fun hc1 => ?_) (fun hc1 => ?_)
  · replace h := (if_neg (c_neT hc1)).mp h
    refine PW.runs hw_73 rfl 4 (q := (12, [some (.ref 0), some (.int a), some (.int b)], [], σ1)) (q' := (20, [some (.ref 0), some (.int a), some (.int b)], [.int a, .ref 20], σ1)) rfl ?_
    obtain ⟨hb1, h⟩ := h
    refine PW.iald (n := 5) (ins_l hw_73 rfl) rfl (idx_in hb1.1 hb1.2).1 ?_
    refine PW.runs hw_73 rfl 4 (q := (21, [some (.ref 0), some (.int a), some (.int b)], [.int (σ1 20 (Int32.toNatClampNeg a))], σ1)) (q' := (29, [some (.ref 0), some (.int a), some (.int b)], [.int b, .ref 20, .int (σ1 20 (Int32.toNatClampNeg a))], σ1)) rfl ?_
    obtain ⟨hb2, h⟩ := h
    refine PW.iald (n := 5) (ins_l hw_73 rfl) rfl (idx_in hb2.1 hb2.2).1 ?_
    refine PW.runs hw_73 rfl 1 (q := (30, [some (.ref 0), some (.int a), some (.int b)], [.int (σ1 20 (Int32.toNatClampNeg b)), .int (σ1 20 (Int32.toNatClampNeg a))], σ1)) (q' := (31, [some (.ref 0), some (.int a), some (.int b)], [.int ((σ1 20 (Int32.toNatClampNeg a)) ^^^ (σ1 20 (Int32.toNatClampNeg b)))], σ1)) rfl ?_
    exact PW.iret (ins_l hw_73 rfl) (Or.inl rfl) ⟨_, rfl, h⟩
  · replace h := (if_pos (c_neF hc1)).mp h
    refine PW.runs hw_73 rfl 1 (q := (9, [some (.ref 0), some (.int a), some (.int b)], [], σ1)) (q' := (11, [some (.ref 0), some (.int a), some (.int b)], [.int (-1000000001)], σ1)) rfl ?_
    exact PW.iret (ins_l hw_73 rfl) (Or.inl rfl) ⟨_, rfl, h⟩
theorem hw_81 : pins.getD 81 [] = pi_81 := rfl
/-! MapDuty.seed.(I)I -/
set_option maxRecDepth 20000 in
theorem w_81 {a : Int32} {σ : St} {K : Int32 → St → Prop} (h : (if 0 ≤ a then K (σ 19 4) (s2 σ 19 4 a) else K (-1000000002) σ)) : CI 81 [.ref 0, .int a] σ K := by
  show PW none 81 0 [some (.ref 0), some (.int a), none] [] σ _
  refine PW.runs hw_81 rfl 1 (q := (0, [some (.ref 0), some (.int a), none], [], σ)) (q' := (1, [some (.ref 0), some (.int a), none], [.int a], σ)) rfl ?_
  refine PW.ifc (t := 7) (ins_l hw_81 rfl) rfl (fun hc1 => ?_) (fun hc1 => ?_)
  · replace h := (if_pos (c_geT hc1)).mp h
    refine PW.runs hw_81 rfl 9 (q := (7, [some (.ref 0), some (.int a), none], [], σ)) (q' := (24, [some (.ref 0), some (.int a), some (.int (σ 19 4))], [.int (σ 19 4)], (s2 σ 19 4 a))) rfl ?_
    exact PW.iret (ins_l hw_81 rfl) (Or.inl rfl) ⟨_, rfl, h⟩
  · replace h := (if_neg (c_geF hc1)).mp h
    refine PW.runs hw_81 rfl 1 (q := (4, [some (.ref 0), some (.int a), none], [], σ)) (q' := (6, [some (.ref 0), some (.int a), none], [.int (-1000000002)], σ)) rfl ?_
    exact PW.iret (ins_l hw_81 rfl) (Or.inl rfl) ⟨_, rfl, h⟩
theorem hw_50 : pins.getD 50 [] = pi_50 := rfl
/-! MapDuty$Standing.oweMore.(II)V -/
set_option maxRecDepth 20000 in
theorem w_50 {a : Int32} {b : Int32} {σ : St} {K : St → Prop} (h : (if a < 0 then K σ else (if 5 ≤ a then K σ else ((0 ≤ a.toInt ∧ a.toInt < 5) ∧ K (s2 σ 21 (Int32.toNatClampNeg a) (if ((σ 21 (Int32.toNatClampNeg a)) + b) < 99999 then ((σ 21 (Int32.toNatClampNeg a)) + b) else 99999)))))) : CV 50 [.ref 19, .int a, .int b] σ K := by
  show PW none 50 0 [some (.ref 19), some (.int a), some (.int b)] [] σ _
  refine PW.runs hw_50 rfl 1 (q := (0, [some (.ref 19), some (.int a), some (.int b)], [], σ)) (q' := (1, [some (.ref 19), some (.int a), some (.int b)], [.int a], σ)) rfl ?_
  refine PW.ifc (t := 28) (ins_l hw_50 rfl) rfl (fun hc1 => ?_) (fun hc1 => ?_)
  · replace h := (if_pos (c_ltT hc1)).mp h
    exact PW.vret (ins_l hw_50 rfl) rfl ⟨rfl, h⟩
  · replace h := (if_neg (c_ltF hc1)).mp h
    refine PW.runs hw_50 rfl 2 (q := (4, [some (.ref 19), some (.int a), some (.int b)], [], σ)) (q' := (6, [some (.ref 19), some (.int a), some (.int b)], [.int 5, .int a], σ)) rfl ?_
    refine PW.icm (t := 28) (ins_l hw_50 rfl) rfl (fun hc2 => ?_) (fun hc2 => ?_)
    · replace h := (if_pos (c_geT hc2)).mp h
      exact PW.vret (ins_l hw_50 rfl) rfl ⟨rfl, h⟩
    · replace h := (if_neg (c_geF hc2)).mp h
      refine PW.runs hw_50 rfl 7 (q := (9, [some (.ref 19), some (.int a), some (.int b)], [], σ)) (q' := (21, [some (.ref 19), some (.int a), some (.int b)], [.int a, .ref 21, .int 99999, .int a, .ref 21], σ)) rfl ?_
      obtain ⟨hb1, h⟩ := h
      refine PW.iald (n := 5) (ins_l hw_50 rfl) rfl (idx_in hb1.1 hb1.2).1 ?_
      refine PW.runs hw_50 rfl 2 (q := (22, [some (.ref 19), some (.int a), some (.int b)], [.int (σ 21 (Int32.toNatClampNeg a)), .int 99999, .int a, .ref 21], σ)) (q' := (24, [some (.ref 19), some (.int a), some (.int b)], [.int ((σ 21 (Int32.toNatClampNeg a)) + b), .int 99999, .int a, .ref 21], σ)) rfl ?_
      refine PW.min (q := (27, [some (.ref 19), some (.int a), some (.int b)], [.int (if ((σ 21 (Int32.toNatClampNeg a)) + b) < 99999 then ((σ 21 (Int32.toNatClampNeg a)) + b) else 99999), .int a, .ref 21], σ)) (ins_l hw_50 rfl) rfl rfl ?_
      refine PW.iast (n := 5) (ins_l hw_50 rfl) rfl (idx_in hb1.1 hb1.2).1 ?_
      exact PW.vret (ins_l hw_50 rfl) rfl ⟨rfl, h⟩
theorem hw_51 : pins.getD 51 [] = pi_51 := rfl
/-! MapDuty$Standing.drawOf.(I)I -/
set_option maxRecDepth 20000 in
theorem w_51 {a : Int32} {σ : St} {K : Int32 → St → Prop} (h : (if 1 ≤ a then (¬ a = 0 ∧ K (((Int64.toInt32 ((((Int32.toInt64 (σ 19 4)) * 1103515245) + 12345) &&& 2147483647)) / 65536) - ((Int64.toInt32 ((((Int32.toInt64 (σ 19 4)) * 1103515245) + 12345) &&& 2147483647)) / 65536) / a * a) (s2 σ 19 4 (Int64.toInt32 ((((Int32.toInt64 (σ 19 4)) * 1103515245) + 12345) &&& 2147483647)))) else K 0 σ)) : CI 51 [.ref 19, .int a] σ K := by
  show PW none 51 0 [some (.ref 19), some (.int a)] [] σ _
  refine PW.runs hw_51 rfl 2 (q := (0, [some (.ref 19), some (.int a)], [], σ)) (q' := (2, [some (.ref 19), some (.int a)], [.int 1, .int a], σ)) rfl ?_
  refine PW.icm (t := 7) (ins_l hw_51 rfl) rfl (fun hc1 => ?_) (fun hc1 => ?_)
  · replace h := (if_pos (c_geT hc1)).mp h
    refine PW.runs hw_51 rfl 15 (q := (7, [some (.ref 19), some (.int a)], [], σ)) (q' := (35, [some (.ref 19), some (.int a)], [.int 65536, .int (Int64.toInt32 ((((Int32.toInt64 (σ 19 4)) * 1103515245) + 12345) &&& 2147483647))], (s2 σ 19 4 (Int64.toInt32 ((((Int32.toInt64 (σ 19 4)) * 1103515245) + 12345) &&& 2147483647))))) rfl ?_
    refine PW.step (q := (36, [some (.ref 19), some (.int a)], [.int ((Int64.toInt32 ((((Int32.toInt64 (σ 19 4)) * 1103515245) + 12345) &&& 2147483647)) / 65536)], (s2 σ 19 4 (Int64.toInt32 ((((Int32.toInt64 (σ 19 4)) * 1103515245) + 12345) &&& 2147483647))))) (ins_l hw_51 rfl) rfl (by simp only [stp, p2, q2]; rw [if_neg (by decide)]) ?_
    refine PW.runs hw_51 rfl 1 (q := (36, [some (.ref 19), some (.int a)], [.int ((Int64.toInt32 ((((Int32.toInt64 (σ 19 4)) * 1103515245) + 12345) &&& 2147483647)) / 65536)], (s2 σ 19 4 (Int64.toInt32 ((((Int32.toInt64 (σ 19 4)) * 1103515245) + 12345) &&& 2147483647))))) (q' := (37, [some (.ref 19), some (.int a)], [.int a, .int ((Int64.toInt32 ((((Int32.toInt64 (σ 19 4)) * 1103515245) + 12345) &&& 2147483647)) / 65536)], (s2 σ 19 4 (Int64.toInt32 ((((Int32.toInt64 (σ 19 4)) * 1103515245) + 12345) &&& 2147483647))))) rfl ?_
    obtain ⟨hb, h⟩ := h
    refine PW.step (q := (38, [some (.ref 19), some (.int a)], [.int (((Int64.toInt32 ((((Int32.toInt64 (σ 19 4)) * 1103515245) + 12345) &&& 2147483647)) / 65536) - ((Int64.toInt32 ((((Int32.toInt64 (σ 19 4)) * 1103515245) + 12345) &&& 2147483647)) / 65536) / a * a)], (s2 σ 19 4 (Int64.toInt32 ((((Int32.toInt64 (σ 19 4)) * 1103515245) + 12345) &&& 2147483647))))) (ins_l hw_51 rfl) rfl (by simp only [stp, p2, q2]; rw [if_neg hb]) ?_
    exact PW.iret (ins_l hw_51 rfl) (Or.inl rfl) ⟨_, rfl, h⟩
  · replace h := (if_neg (c_geF hc1)).mp h
    refine PW.runs hw_51 rfl 1 (q := (5, [some (.ref 19), some (.int a)], [], σ)) (q' := (6, [some (.ref 19), some (.int a)], [.int 0], σ)) rfl ?_
    exact PW.iret (ins_l hw_51 rfl) (Or.inl rfl) ⟨_, rfl, h⟩
theorem hw_100 : pins.getD 100 [] = pi_100 := rfl
/-! MapDuty.owedByAll.()I -/
set_option maxRecDepth 20000 in
theorem w_100  {σ : St} {K : Int32 → St → Prop} (h : PI 100 4 [some (.ref 0), some (.int 0), some (.int 0)] [] σ K) : CI 100 [.ref 0] σ K := by
  show PW none 100 0 [some (.ref 0), none, none] [] σ _
  refine PW.runs hw_100 rfl 4 (q := (0, [some (.ref 0), none, none], [], σ)) (q' := (4, [some (.ref 0), some (.int 0), some (.int 0)], [], σ)) rfl ?_
  exact h
set_option maxRecDepth 20000 in
theorem w_100_4 {x1 : Int32} {x2 : Int32} {σ : St} {K : Int32 → St → Prop} (h : (if (σ 11 2) ≤ x2 then K x1 σ else ((0 ≤ x2.toInt ∧ x2.toInt < 5) ∧ PI 100 4 [some (.ref 0), some (.int (x1 + (σ 21 (Int32.toNatClampNeg x2)))), some (.int (x2 + 1))] [] σ K))) : PI 100 4 [some (.ref 0), some (.int x1), some (.int x2)] [] σ K := by
  show PW none 100 4 [some (.ref 0), some (.int x1), some (.int x2)] [] σ _
  refine PW.runs hw_100 rfl 4 (q := (4, [some (.ref 0), some (.int x1), some (.int x2)], [], σ)) (q' := (12, [some (.ref 0), some (.int x1), some (.int x2)], [.int (σ 11 2), .int x2], σ)) rfl ?_
  refine PW.icm (t := 33) (ins_l hw_100 rfl) rfl (fun hc1 => ?_) (fun hc1 => ?_)
  · replace h := (if_pos (c_geT hc1)).mp h
    refine PW.runs hw_100 rfl 1 (q := (33, [some (.ref 0), some (.int x1), some (.int x2)], [], σ)) (q' := (34, [some (.ref 0), some (.int x1), some (.int x2)], [.int x1], σ)) rfl ?_
    exact PW.iret (ins_l hw_100 rfl) (Or.inl rfl) ⟨_, rfl, h⟩
  · replace h := (if_neg (c_geF hc1)).mp h
    refine PW.runs hw_100 rfl 5 (q := (15, [some (.ref 0), some (.int x1), some (.int x2)], [], σ)) (q' := (24, [some (.ref 0), some (.int x1), some (.int x2)], [.int x2, .ref 21, .int x1], σ)) rfl ?_
    obtain ⟨hb1, h⟩ := h
    refine PW.iald (n := 5) (ins_l hw_100 rfl) rfl (idx_in hb1.1 hb1.2).1 ?_
    refine PW.runs hw_100 rfl 4 (q := (25, [some (.ref 0), some (.int x1), some (.int x2)], [.int (σ 21 (Int32.toNatClampNeg x2)), .int x1], σ)) (q' := (4, [some (.ref 0), some (.int (x1 + (σ 21 (Int32.toNatClampNeg x2)))), some (.int (x2 + 1))], [], σ)) rfl ?_
    exact h
theorem hw_102 : pins.getD 102 [] = pi_102 := rfl
/-! MapDuty.refusalOfDays.(I)I -/
set_option maxRecDepth 20000 in
theorem w_102 {a : Int32} {σ : St} {K : Int32 → St → Prop} (h : CI 91 [.int a, .int 1, .int 60] σ (fun v1 σ1 => (if v1 = 0 then K (-1000000002) σ1 else (if (σ1 11 0) = 0 then K (-1000000003) σ1 else (if (σ1 19 1) ≤ 9000 then K 0 σ1 else K (-1000000004) σ1))))) : CI 102 [.ref 0, .int a] σ K := by
  show PW none 102 0 [some (.ref 0), some (.int a)] [] σ _
  refine PW.runs hw_102 rfl 3 (q := (0, [some (.ref 0), some (.int a)], [], σ)) (q' := (4, [some (.ref 0), some (.int a)], [.int 60, .int 1, .int a], σ)) rfl ?_
  refine PW.callS (vs := [.int a, .int 1, .int 60]) (rest := []) (ins_l hw_102 rfl) rfl (Or.inl rfl) rfl (Nat.le_of_ble_eq_true rfl) (Nat.le_of_ble_eq_true rfl) (PW.mono h ?_)
  rintro _ σ1 ⟨v1, rfl, h⟩
  show PW none 102 7 [some (.ref 0), some (.int a)] [.int v1] σ1 _
  refine PW.ifc (t := 13) (ins_l hw_102 rfl) rfl (fun hc1 => ?_) (fun hc1 => ?_)
  · replace h := (if_neg (c_neT hc1)).mp h
    refine PW.runs hw_102 rfl 3 (q := (13, [some (.ref 0), some (.int a)], [], σ1)) (q' := (20, [some (.ref 0), some (.int a)], [.int (σ1 11 0)], σ1)) rfl ?_
    refine PW.ifc (t := 26) (ins_l hw_102 rfl) rfl (fun hc2 => ?_) (fun hc2 => ?_)
    · replace h := (if_neg (c_neT hc2)).mp h
      refine PW.runs hw_102 rfl 4 (q := (26, [some (.ref 0), some (.int a)], [], σ1)) (q' := (36, [some (.ref 0), some (.int a)], [.int 9000, .int (σ1 19 1)], σ1)) rfl ?_
      refine PW.icm (t := 45) (ins_l hw_102 rfl) rfl (fun hc3 => ?_) (fun hc3 => ?_)
      · replace h := (if_pos (c_leT hc3)).mp h
        refine PW.runs hw_102 rfl 1 (q := (45, [some (.ref 0), some (.int a)], [], σ1)) (q' := (46, [some (.ref 0), some (.int a)], [.int 0], σ1)) rfl ?_
        exact PW.iret (ins_l hw_102 rfl) (Or.inl rfl) ⟨_, rfl, h⟩
      · replace h := (if_neg (c_leF hc3)).mp h
        refine PW.runs hw_102 rfl 2 (q := (39, [some (.ref 0), some (.int a)], [], σ1)) (q' := (46, [some (.ref 0), some (.int a)], [.int (-1000000004)], σ1)) rfl ?_
        exact PW.iret (ins_l hw_102 rfl) (Or.inl rfl) ⟨_, rfl, h⟩
    · replace h := (if_pos (c_neF hc2)).mp h
      refine PW.runs hw_102 rfl 1 (q := (23, [some (.ref 0), some (.int a)], [], σ1)) (q' := (25, [some (.ref 0), some (.int a)], [.int (-1000000003)], σ1)) rfl ?_
      exact PW.iret (ins_l hw_102 rfl) (Or.inl rfl) ⟨_, rfl, h⟩
  · replace h := (if_pos (c_neF hc1)).mp h
    refine PW.runs hw_102 rfl 1 (q := (10, [some (.ref 0), some (.int a)], [], σ1)) (q' := (12, [some (.ref 0), some (.int a)], [.int (-1000000002)], σ1)) rfl ?_
    exact PW.iret (ins_l hw_102 rfl) (Or.inl rfl) ⟨_, rfl, h⟩
theorem hw_103 : pins.getD 103 [] = pi_103 := rfl
/-! MapDuty.passDay.()V -/
set_option maxRecDepth 20000 in
theorem w_103  {σ : St} {K : St → Prop} (h : PV 103 2 [some (.ref 0), some (.int 0)] [] σ K) : CV 103 [.ref 0] σ K := by
  show PW none 103 0 [some (.ref 0), none] [] σ _
  refine PW.runs hw_103 rfl 2 (q := (0, [some (.ref 0), none], [], σ)) (q' := (2, [some (.ref 0), some (.int 0)], [], σ)) rfl ?_
  exact h
set_option maxRecDepth 20000 in
theorem w_103_2 {x1 : Int32} {σ : St} {K : St → Prop} (h : (if (σ 11 2) ≤ x1 then K (s2 σ 19 1 ((σ 19 1) + 1)) else CI 95 [.ref 0, .int x1] σ (fun v1 σ1 => CV 50 [.ref 19, .int x1, .int v1] σ1 (fun σ2 => PV 103 2 [some (.ref 0), some (.int (x1 + 1))] [] σ2 K)))) : PV 103 2 [some (.ref 0), some (.int x1)] [] σ K := by
  show PW none 103 2 [some (.ref 0), some (.int x1)] [] σ _
  refine PW.runs hw_103 rfl 4 (q := (2, [some (.ref 0), some (.int x1)], [], σ)) (q' := (10, [some (.ref 0), some (.int x1)], [.int (σ 11 2), .int x1], σ)) rfl ?_
  refine PW.icm (t := 32) (ins_l hw_103 rfl) rfl (fun hc1 => ?_) (fun hc1 => ?_)
  · replace h := (if_pos (c_geT hc1)).mp h
    refine PW.runs hw_103 rfl 7 (q := (32, [some (.ref 0), some (.int x1)], [], σ)) (q' := (45, [some (.ref 0), some (.int x1)], [], (s2 σ 19 1 ((σ 19 1) + 1)))) rfl ?_
    exact PW.vret (ins_l hw_103 rfl) rfl ⟨rfl, h⟩
  · replace h := (if_neg (c_geF hc1)).mp h
    refine PW.runs hw_103 rfl 5 (q := (13, [some (.ref 0), some (.int x1)], [], σ)) (q' := (20, [some (.ref 0), some (.int x1)], [.int x1, .ref 0, .int x1, .ref 19], σ)) rfl ?_
    refine PW.callV (b := 0) (vs := [.int x1]) (rest := [.int x1, .ref 19]) (ins_l hw_103 rfl) rfl rfl rfl (Nat.le_of_ble_eq_true rfl) (Nat.le_of_ble_eq_true rfl) (PW.mono h ?_)
    rintro _ σ1 ⟨v1, rfl, h⟩
    show PW none 103 23 [some (.ref 0), some (.int x1)] [.int v1, .int x1, .ref 19] σ1 _
    refine PW.callV (b := 19) (vs := [.int x1, .int v1]) (rest := []) (ins_l hw_103 rfl) rfl rfl rfl (Nat.le_of_ble_eq_true rfl) (Nat.le_of_ble_eq_true rfl) (PW.mono h ?_)
    rintro _ σ2 ⟨rfl, h⟩
    show PW none 103 26 [some (.ref 0), some (.int x1)] [] σ2 _
    refine PW.runs hw_103 rfl 2 (q := (26, [some (.ref 0), some (.int x1)], [], σ2)) (q' := (2, [some (.ref 0), some (.int (x1 + 1))], [], σ2)) rfl ?_
    exact h
theorem hw_104 : pins.getD 104 [] = pi_104 := rfl
/-! MapDuty.happenByDraw.()V -/
set_option maxRecDepth 20000 in
theorem w_104  {σ : St} {K : St → Prop} (h : CI 51 [.ref 19, .int 5] σ (fun v1 σ1 => (if v1 = 0 then CI 51 [.ref 19, .int (σ1 11 1)] σ1 (fun v9 σ9 => K (s2 σ9 19 0 ((σ1 19 0) ^^^ (1 <<< (v9 &&& 31))))) else (if v1 = 1 then (if (σ1 11 2) ≤ 0 then (if v1 = 2 then K σ1 else K σ1) else CI 51 [.ref 19, .int (σ1 11 2)] σ1 (fun v6 σ6 => CI 51 [.ref 19, .int (σ6 11 1)] σ6 (fun v7 σ7 => CI 86 [.ref 0, .int v6] σ7 (fun v8 σ8 => (if v8 = 0 then K σ8 else ((0 ≤ v6.toInt ∧ v6.toInt < 5) ∧ K (s2 σ8 20 (Int32.toNatClampNeg v6) ((σ8 20 (Int32.toNatClampNeg v6)) ^^^ (1 <<< (v7 &&& 31)))))))))) else (if v1 = 2 then (if (σ1 11 2) ≤ 0 then K σ1 else (if (σ1 11 3) ≤ 0 then K σ1 else CI 51 [.ref 19, .int (σ1 11 3)] σ1 (fun v2 σ2 => CI 51 [.ref 19, .int (σ2 11 2)] σ2 (fun v3 σ3 => CI 101 [.ref 0, .int v2, .int v3] σ3 (fun v4 σ4 => CV 50 [.ref 19, .int v3, .int v4] σ4 (fun σ5 => K σ5)))))) else K σ1))))) : CV 104 [.ref 0] σ K := by
  show PW none 104 0 [some (.ref 0), none, none, none] [] σ _
  refine PW.runs hw_104 rfl 3 (q := (0, [some (.ref 0), none, none, none], [], σ)) (q' := (5, [some (.ref 0), none, none, none], [.int 5, .ref 19], σ)) rfl ?_
  refine PW.callV (b := 19) (vs := [.int 5]) (rest := []) (ins_l hw_104 rfl) rfl rfl rfl (Nat.le_of_ble_eq_true rfl) (Nat.le_of_ble_eq_true rfl) (PW.mono h ?_)
  rintro _ σ1 ⟨v1, rfl, h⟩
  show PW none 104 8 [some (.ref 0), none, none, none] [.int v1] σ1 _
  refine PW.runs hw_104 rfl 2 (q := (8, [some (.ref 0), none, none, none], [.int v1], σ1)) (q' := (10, [some (.ref 0), some (.int v1), none, none], [.int v1], σ1)) rfl ?_
  refine PW.ifc (t := 44) (ins_l hw_104 rfl) rfl (fun hc1 => ?_) (fun hc1 => ?_)
  · replace h := (if_neg (c_neT hc1)).mp h
    refine PW.runs hw_104 rfl 2 (q := (44, [some (.ref 0), some (.int v1), none, none], [], σ1)) (q' := (46, [some (.ref 0), some (.int v1), none, none], [.int 1, .int v1], σ1)) rfl ?_
    refine PW.icm (t := 115) (ins_l hw_104 rfl) rfl (fun hc2 => ?_) (fun hc2 => ?_)
    · replace h := (if_neg (c_neT hc2)).mp h
      refine PW.runs hw_104 rfl 2 (q := (115, [some (.ref 0), some (.int v1), none, none], [], σ1)) (q' := (117, [some (.ref 0), some (.int v1), none, none], [.int 2, .int v1], σ1)) rfl ?_
      refine PW.icm (t := 184) (ins_l hw_104 rfl) rfl (fun hc3 => ?_) (fun hc3 => ?_)
      · replace h := (if_neg (c_neT hc3)).mp h
        exact PW.vret (ins_l hw_104 rfl) rfl ⟨rfl, h⟩
      · replace h := (if_pos (c_neF hc3)).mp h
        refine PW.runs hw_104 rfl 3 (q := (120, [some (.ref 0), some (.int v1), none, none], [], σ1)) (q' := (127, [some (.ref 0), some (.int v1), none, none], [.int (σ1 11 2)], σ1)) rfl ?_
        refine PW.ifc (t := 184) (ins_l hw_104 rfl) rfl (fun hc4 => ?_) (fun hc4 => ?_)
        · replace h := (if_pos (c_leT hc4)).mp h
          exact PW.vret (ins_l hw_104 rfl) rfl ⟨rfl, h⟩
        · replace h := (if_neg (c_leF hc4)).mp h
          refine PW.runs hw_104 rfl 3 (q := (130, [some (.ref 0), some (.int v1), none, none], [], σ1)) (q' := (137, [some (.ref 0), some (.int v1), none, none], [.int (σ1 11 3)], σ1)) rfl ?_
          refine PW.ifc (t := 184) (ins_l hw_104 rfl) rfl (fun hc5 => ?_) (fun hc5 => ?_)
          · replace h := (if_pos (c_leT hc5)).mp h
            exact PW.vret (ins_l hw_104 rfl) rfl ⟨rfl, h⟩
          · replace h := (if_neg (c_leF hc5)).mp h
            refine PW.runs hw_104 rfl 5 (q := (140, [some (.ref 0), some (.int v1), none, none], [], σ1)) (q' := (151, [some (.ref 0), some (.int v1), none, none], [.int (σ1 11 3), .ref 19], σ1)) rfl ?_
            refine PW.callV (b := 19) (vs := [.int (σ1 11 3)]) (rest := []) (ins_l hw_104 rfl) rfl rfl rfl (Nat.le_of_ble_eq_true rfl) (Nat.le_of_ble_eq_true rfl) (PW.mono h ?_)
            rintro _ σ2 ⟨v2, rfl, h⟩
            show PW none 104 154 [some (.ref 0), some (.int v1), none, none] [.int v2] σ2 _
            refine PW.runs hw_104 rfl 6 (q := (154, [some (.ref 0), some (.int v1), none, none], [.int v2], σ2)) (q' := (166, [some (.ref 0), some (.int v1), some (.int v2), none], [.int (σ2 11 2), .ref 19], σ2)) rfl ?_
            refine PW.callV (b := 19) (vs := [.int (σ2 11 2)]) (rest := []) (ins_l hw_104 rfl) rfl rfl rfl (Nat.le_of_ble_eq_true rfl) (Nat.le_of_ble_eq_true rfl) (PW.mono h ?_)
            rintro _ σ3 ⟨v3, rfl, h⟩
            show PW none 104 169 [some (.ref 0), some (.int v1), some (.int v2), none] [.int v3] σ3 _
            refine PW.runs hw_104 rfl 7 (q := (169, [some (.ref 0), some (.int v1), some (.int v2), none], [.int v3], σ3)) (q' := (178, [some (.ref 0), some (.int v1), some (.int v2), some (.int v3)], [.int v3, .int v2, .ref 0, .int v3, .ref 19], σ3)) rfl ?_
            refine PW.callV (b := 0) (vs := [.int v2, .int v3]) (rest := [.int v3, .ref 19]) (ins_l hw_104 rfl) rfl rfl rfl (Nat.le_of_ble_eq_true rfl) (Nat.le_of_ble_eq_true rfl) (PW.mono h ?_)
            rintro _ σ4 ⟨v4, rfl, h⟩
            show PW none 104 181 [some (.ref 0), some (.int v1), some (.int v2), some (.int v3)] [.int v4, .int v3, .ref 19] σ4 _
            refine PW.callV (b := 19) (vs := [.int v3, .int v4]) (rest := []) (ins_l hw_104 rfl) rfl rfl rfl (Nat.le_of_ble_eq_true rfl) (Nat.le_of_ble_eq_true rfl) (PW.mono h ?_)
            rintro _ σ5 ⟨rfl, h⟩
            show PW none 104 184 [some (.ref 0), some (.int v1), some (.int v2), some (.int v3)] [] σ5 _
            exact PW.vret (ins_l hw_104 rfl) rfl ⟨rfl, h⟩
    · replace h := (if_pos (c_neF hc2)).mp h
      refine PW.runs hw_104 rfl 3 (q := (49, [some (.ref 0), some (.int v1), none, none], [], σ1)) (q' := (56, [some (.ref 0), some (.int v1), none, none], [.int (σ1 11 2)], σ1)) rfl ?_
      refine PW.ifc (t := 115) (ins_l hw_104 rfl) rfl (fun hc3 => ?_) (fun hc3 => ?_)
      · replace h := (if_pos (c_leT hc3)).mp h
        refine PW.runs hw_104 rfl 2 (q := (115, [some (.ref 0), some (.int v1), none, none], [], σ1)) (q' := (117, [some (.ref 0), some (.int v1), none, none], [.int 2, .int v1], σ1)) rfl ?_
        refine PW.icm (t := 184) (ins_l hw_104 rfl) rfl (fun hc4 => ?_) (fun hc4 => ?_)
        · replace h := (if_neg (c_neT hc4)).mp h
          exact PW.vret (ins_l hw_104 rfl) rfl ⟨rfl, h⟩
        · replace h := (if_pos (c_neF hc4)).mp h
          refine PW.runs hw_104 rfl 3 (q := (120, [some (.ref 0), some (.int v1), none, none], [], σ1)) (q' := (127, [some (.ref 0), some (.int v1), none, none], [.int (σ1 11 2)], σ1)) rfl ?_
          refine PW.ifcT (t := 184) (ins_l hw_104 rfl) rfl hc3 ?_
          exact PW.vret (ins_l hw_104 rfl) rfl ⟨rfl, h⟩
      · replace h := (if_neg (c_leF hc3)).mp h
        refine PW.runs hw_104 rfl 5 (q := (59, [some (.ref 0), some (.int v1), none, none], [], σ1)) (q' := (70, [some (.ref 0), some (.int v1), none, none], [.int (σ1 11 2), .ref 19], σ1)) rfl ?_
        refine PW.callV (b := 19) (vs := [.int (σ1 11 2)]) (rest := []) (ins_l hw_104 rfl) rfl rfl rfl (Nat.le_of_ble_eq_true rfl) (Nat.le_of_ble_eq_true rfl) (PW.mono h ?_)
        rintro _ σ6 ⟨v6, rfl, h⟩
        show PW none 104 73 [some (.ref 0), some (.int v1), none, none] [.int v6] σ6 _
        refine PW.runs hw_104 rfl 6 (q := (73, [some (.ref 0), some (.int v1), none, none], [.int v6], σ6)) (q' := (85, [some (.ref 0), some (.int v1), some (.int v6), none], [.int (σ6 11 1), .ref 19], σ6)) rfl ?_
        refine PW.callV (b := 19) (vs := [.int (σ6 11 1)]) (rest := []) (ins_l hw_104 rfl) rfl rfl rfl (Nat.le_of_ble_eq_true rfl) (Nat.le_of_ble_eq_true rfl) (PW.mono h ?_)
        rintro _ σ7 ⟨v7, rfl, h⟩
        show PW none 104 88 [some (.ref 0), some (.int v1), some (.int v6), none] [.int v7] σ7 _
        refine PW.runs hw_104 rfl 3 (q := (88, [some (.ref 0), some (.int v1), some (.int v6), none], [.int v7], σ7)) (q' := (91, [some (.ref 0), some (.int v1), some (.int v6), some (.int v7)], [.int v6, .ref 0], σ7)) rfl ?_
        refine PW.callV (b := 0) (vs := [.int v6]) (rest := []) (ins_l hw_104 rfl) rfl rfl rfl (Nat.le_of_ble_eq_true rfl) (Nat.le_of_ble_eq_true rfl) (PW.mono h ?_)
        rintro _ σ8 ⟨v8, rfl, h⟩
        show PW none 104 94 [some (.ref 0), some (.int v1), some (.int v6), some (.int v7)] [.int v8] σ8 _
        refine PW.ifc (t := 112) (ins_l hw_104 rfl) rfl (fun hc4 => ?_) (fun hc4 => ?_)
        · replace h := (if_pos (c_eqT hc4)).mp h
          refine PW.runs hw_104 rfl 1 (q := (112, [some (.ref 0), some (.int v1), some (.int v6), some (.int v7)], [], σ8)) (q' := (184, [some (.ref 0), some (.int v1), some (.int v6), some (.int v7)], [], σ8)) rfl ?_
          exact PW.vret (ins_l hw_104 rfl) rfl ⟨rfl, h⟩
        · replace h := (if_neg (c_eqF hc4)).mp h
          refine PW.runs hw_104 rfl 5 (q := (97, [some (.ref 0), some (.int v1), some (.int v6), some (.int v7)], [], σ8)) (q' := (106, [some (.ref 0), some (.int v1), some (.int v6), some (.int v7)], [.int v6, .ref 20, .int v6, .ref 20], σ8)) rfl ?_
          obtain ⟨hb1, h⟩ := h
          refine PW.iald (n := 5) (ins_l hw_104 rfl) rfl (idx_in hb1.1 hb1.2).1 ?_
          refine PW.runs hw_104 rfl 4 (q := (107, [some (.ref 0), some (.int v1), some (.int v6), some (.int v7)], [.int (σ8 20 (Int32.toNatClampNeg v6)), .int v6, .ref 20], σ8)) (q' := (111, [some (.ref 0), some (.int v1), some (.int v6), some (.int v7)], [.int ((σ8 20 (Int32.toNatClampNeg v6)) ^^^ (1 <<< (v7 &&& 31))), .int v6, .ref 20], σ8)) rfl ?_
          refine PW.iast (n := 5) (ins_l hw_104 rfl) rfl (idx_in hb1.1 hb1.2).1 ?_
          refine PW.runs hw_104 rfl 1 (q := (112, [some (.ref 0), some (.int v1), some (.int v6), some (.int v7)], [], (s2 σ8 20 (Int32.toNatClampNeg v6) ((σ8 20 (Int32.toNatClampNeg v6)) ^^^ (1 <<< (v7 &&& 31)))))) (q' := (184, [some (.ref 0), some (.int v1), some (.int v6), some (.int v7)], [], (s2 σ8 20 (Int32.toNatClampNeg v6) ((σ8 20 (Int32.toNatClampNeg v6)) ^^^ (1 <<< (v7 &&& 31)))))) rfl ?_
          exact PW.vret (ins_l hw_104 rfl) rfl ⟨rfl, h⟩
  · replace h := (if_pos (c_neF hc1)).mp h
    refine PW.runs hw_104 rfl 10 (q := (13, [some (.ref 0), some (.int v1), none, none], [], σ1)) (q' := (33, [some (.ref 0), some (.int v1), none, none], [.int (σ1 11 1), .ref 19, .int 1, .int (σ1 19 0), .ref 19], σ1)) rfl ?_
    refine PW.callV (b := 19) (vs := [.int (σ1 11 1)]) (rest := [.int 1, .int (σ1 19 0), .ref 19]) (ins_l hw_104 rfl) rfl rfl rfl (Nat.le_of_ble_eq_true rfl) (Nat.le_of_ble_eq_true rfl) (PW.mono h ?_)
    rintro _ σ9 ⟨v9, rfl, h⟩
    show PW none 104 36 [some (.ref 0), some (.int v1), none, none] [.int v9, .int 1, .int (σ1 19 0), .ref 19] σ9 _
    refine PW.runs hw_104 rfl 4 (q := (36, [some (.ref 0), some (.int v1), none, none], [.int v9, .int 1, .int (σ1 19 0), .ref 19], σ9)) (q' := (184, [some (.ref 0), some (.int v1), none, none], [], (s2 σ9 19 0 ((σ1 19 0) ^^^ (1 <<< (v9 &&& 31)))))) rfl ?_
    exact PW.vret (ins_l hw_104 rfl) rfl ⟨rfl, h⟩
theorem hw_58 : pins.getD 58 [] = pi_58 := rfl
/-! MapDuty.line.(II)I -/
set_option maxRecDepth 20000 in
theorem w_58 {a : Int32} {b : Int32} {σ : St} {K : Int32 → St → Prop} (h : CI 85 [.ref 0, .int a] σ (fun v1 σ1 => (if v1 = 0 then K (-1000000001) σ1 else (if b = 0 then ((0 ≤ a.toInt ∧ a.toInt < 12) ∧ K (σ1 12 (Int32.toNatClampNeg a)) σ1) else (if b = 1 then ((0 ≤ a.toInt ∧ a.toInt < 12) ∧ K (σ1 13 (Int32.toNatClampNeg a)) σ1) else (if b = 2 then CI 92 [.int (σ1 19 0), .int a] σ1 (fun v2 σ2 => K v2 σ2) else (if b = 3 then ((0 ≤ a.toInt ∧ a.toInt < 12) ∧ K (σ1 14 (Int32.toNatClampNeg a)) σ1) else (if b = 4 then CI 97 [.ref 0, .int a] σ1 (fun v3 σ3 => K v3 σ3) else K (-1000000002) σ1)))))))) : CI 58 [.ref 0, .int a, .int b] σ K := by
  show PW none 58 0 [some (.ref 0), some (.int a), some (.int b)] [] σ _
  refine PW.runs hw_58 rfl 2 (q := (0, [some (.ref 0), some (.int a), some (.int b)], [], σ)) (q' := (2, [some (.ref 0), some (.int a), some (.int b)], [.int a, .ref 0], σ)) rfl ?_
  refine PW.callV (b := 0) (vs := [.int a]) (rest := []) (ins_l hw_58 rfl) rfl rfl rfl (Nat.le_of_ble_eq_true rfl) (Nat.le_of_ble_eq_true rfl) (PW.mono h ?_)
  rintro _ σ1 ⟨v1, rfl, h⟩
  show PW none 58 5 [some (.ref 0), some (.int a), some (.int b)] [.int v1] σ1 _
  refine PW.ifc (t := 11) (ins_l hw_58 rfl) rfl (fun hc1 => ?_) (fun hc1 => ?_)
  · replace h := (if_neg (c_neT hc1)).mp h
    refine PW.runs hw_58 rfl 1 (q := (11, [some (.ref 0), some (.int a), some (.int b)], [], σ1)) (q' := (12, [some (.ref 0), some (.int a), some (.int b)], [.int b], σ1)) rfl ?_
    by_cases c0 : b = 0
    · replace h := (if_pos c0).mp h
      refine PW.tswK (k := 0) (t := 48) (ins_l hw_58 rfl) c0 (by decide) (by decide) rfl rfl ?_
      refine PW.runs hw_58 rfl 4 (q := (48, [some (.ref 0), some (.int a), some (.int b)], [], σ1)) (q' := (56, [some (.ref 0), some (.int a), some (.int b)], [.int a, .ref 12], σ1)) rfl ?_
      obtain ⟨hb1, h⟩ := h
      refine PW.iald (n := 12) (ins_l hw_58 rfl) rfl (idx_in hb1.1 hb1.2).1 ?_
      exact PW.iret (ins_l hw_58 rfl) (Or.inl rfl) ⟨_, rfl, h⟩
    replace h := (if_neg c0).mp h
    by_cases c1 : b = 1
    · replace h := (if_pos c1).mp h
      refine PW.tswK (k := 1) (t := 58) (ins_l hw_58 rfl) c1 (by decide) (by decide) rfl rfl ?_
      refine PW.runs hw_58 rfl 4 (q := (58, [some (.ref 0), some (.int a), some (.int b)], [], σ1)) (q' := (66, [some (.ref 0), some (.int a), some (.int b)], [.int a, .ref 13], σ1)) rfl ?_
      obtain ⟨hb1, h⟩ := h
      refine PW.iald (n := 12) (ins_l hw_58 rfl) rfl (idx_in hb1.1 hb1.2).1 ?_
      exact PW.iret (ins_l hw_58 rfl) (Or.inl rfl) ⟨_, rfl, h⟩
    replace h := (if_neg c1).mp h
    by_cases c2 : b = 2
    · replace h := (if_pos c2).mp h
      refine PW.tswK (k := 2) (t := 68) (ins_l hw_58 rfl) c2 (by decide) (by decide) rfl rfl ?_
      refine PW.runs hw_58 rfl 4 (q := (68, [some (.ref 0), some (.int a), some (.int b)], [], σ1)) (q' := (76, [some (.ref 0), some (.int a), some (.int b)], [.int a, .int (σ1 19 0)], σ1)) rfl ?_
      refine PW.callS (vs := [.int (σ1 19 0), .int a]) (rest := []) (ins_l hw_58 rfl) rfl (Or.inl rfl) rfl (Nat.le_of_ble_eq_true rfl) (Nat.le_of_ble_eq_true rfl) (PW.mono h ?_)
      rintro _ σ2 ⟨v2, rfl, h⟩
      show PW none 58 79 [some (.ref 0), some (.int a), some (.int b)] [.int v2] σ2 _
      exact PW.iret (ins_l hw_58 rfl) (Or.inl rfl) ⟨_, rfl, h⟩
    replace h := (if_neg c2).mp h
    by_cases c3 : b = 3
    · replace h := (if_pos c3).mp h
      refine PW.tswK (k := 3) (t := 80) (ins_l hw_58 rfl) c3 (by decide) (by decide) rfl rfl ?_
      refine PW.runs hw_58 rfl 4 (q := (80, [some (.ref 0), some (.int a), some (.int b)], [], σ1)) (q' := (88, [some (.ref 0), some (.int a), some (.int b)], [.int a, .ref 14], σ1)) rfl ?_
      obtain ⟨hb1, h⟩ := h
      refine PW.iald (n := 12) (ins_l hw_58 rfl) rfl (idx_in hb1.1 hb1.2).1 ?_
      exact PW.iret (ins_l hw_58 rfl) (Or.inl rfl) ⟨_, rfl, h⟩
    replace h := (if_neg c3).mp h
    by_cases c4 : b = 4
    · replace h := (if_pos c4).mp h
      refine PW.tswK (k := 4) (t := 90) (ins_l hw_58 rfl) c4 (by decide) (by decide) rfl rfl ?_
      refine PW.runs hw_58 rfl 2 (q := (90, [some (.ref 0), some (.int a), some (.int b)], [], σ1)) (q' := (92, [some (.ref 0), some (.int a), some (.int b)], [.int a, .ref 0], σ1)) rfl ?_
      refine PW.callV (b := 0) (vs := [.int a]) (rest := []) (ins_l hw_58 rfl) rfl rfl rfl (Nat.le_of_ble_eq_true rfl) (Nat.le_of_ble_eq_true rfl) (PW.mono h ?_)
      rintro _ σ3 ⟨v3, rfl, h⟩
      show PW none 58 95 [some (.ref 0), some (.int a), some (.int b)] [.int v3] σ3 _
      exact PW.iret (ins_l hw_58 rfl) (Or.inl rfl) ⟨_, rfl, h⟩
    replace h := (if_neg c4).mp h
    have hD : PI 58 96 [some (.ref 0), some (.int a), some (.int b)] [] σ1 K := by
      refine PW.runs hw_58 rfl 1 (q := (96, [some (.ref 0), some (.int a), some (.int b)], [], σ1)) (q' := (98, [some (.ref 0), some (.int a), some (.int b)], [.int (-1000000002)], σ1)) rfl ?_
      exact PW.iret (ins_l hw_58 rfl) (Or.inl rfl) ⟨_, rfl, h⟩
    refine PW.tswD (t := 96) (ins_l hw_58 rfl) ?_ rfl hD
    have zc0 := tne c0 (k := 0) rfl
    have zc1 := tne c1 (k := 1) rfl
    have zc2 := tne c2 (k := 2) rfl
    have zc3 := tne c3 (k := 3) rfl
    have zc4 := tne c4 (k := 4) rfl
    omega
  · replace h := (if_pos (c_neF hc1)).mp h
    refine PW.runs hw_58 rfl 1 (q := (8, [some (.ref 0), some (.int a), some (.int b)], [], σ1)) (q' := (10, [some (.ref 0), some (.int a), some (.int b)], [.int (-1000000001)], σ1)) rfl ?_
    exact PW.iret (ins_l hw_58 rfl) (Or.inl rfl) ⟨_, rfl, h⟩
theorem hw_97 : pins.getD 97 [] = pi_97 := rfl
/-! MapDuty.mapsThatShow.(I)I -/
set_option maxRecDepth 20000 in
theorem w_97 {a : Int32} {σ : St} {K : Int32 → St → Prop} (h : PI 97 4 [some (.ref 0), some (.int a), some (.int 0), some (.int 0)] [] σ K) : CI 97 [.ref 0, .int a] σ K := by
  show PW none 97 0 [some (.ref 0), some (.int a), none, none] [] σ _
  refine PW.runs hw_97 rfl 4 (q := (0, [some (.ref 0), some (.int a), none, none], [], σ)) (q' := (4, [some (.ref 0), some (.int a), some (.int 0), some (.int 0)], [], σ)) rfl ?_
  exact h
set_option maxRecDepth 20000 in
theorem w_97_4 {a : Int32} {x2 : Int32} {x3 : Int32} {σ : St} {K : Int32 → St → Prop} (h : (if (σ 11 2) ≤ x3 then K x2 σ else ((0 ≤ x3.toInt ∧ x3.toInt < 5) ∧ CI 92 [.int (σ 20 (Int32.toNatClampNeg x3)), .int a] σ (fun v1 σ1 => PI 97 4 [some (.ref 0), some (.int a), some (.int (x2 ||| (v1 <<< (x3 &&& 31)))), some (.int (x3 + 1))] [] σ1 K)))) : PI 97 4 [some (.ref 0), some (.int a), some (.int x2), some (.int x3)] [] σ K := by
  show PW none 97 4 [some (.ref 0), some (.int a), some (.int x2), some (.int x3)] [] σ _
  refine PW.runs hw_97 rfl 4 (q := (4, [some (.ref 0), some (.int a), some (.int x2), some (.int x3)], [], σ)) (q' := (12, [some (.ref 0), some (.int a), some (.int x2), some (.int x3)], [.int (σ 11 2), .int x3], σ)) rfl ?_
  refine PW.icm (t := 39) (ins_l hw_97 rfl) rfl (fun hc1 => ?_) (fun hc1 => ?_)
  · replace h := (if_pos (c_geT hc1)).mp h
    refine PW.runs hw_97 rfl 1 (q := (39, [some (.ref 0), some (.int a), some (.int x2), some (.int x3)], [], σ)) (q' := (40, [some (.ref 0), some (.int a), some (.int x2), some (.int x3)], [.int x2], σ)) rfl ?_
    exact PW.iret (ins_l hw_97 rfl) (Or.inl rfl) ⟨_, rfl, h⟩
  · replace h := (if_neg (c_geF hc1)).mp h
    refine PW.runs hw_97 rfl 5 (q := (15, [some (.ref 0), some (.int a), some (.int x2), some (.int x3)], [], σ)) (q' := (24, [some (.ref 0), some (.int a), some (.int x2), some (.int x3)], [.int x3, .ref 20, .int x2], σ)) rfl ?_
    obtain ⟨hb1, h⟩ := h
    refine PW.iald (n := 5) (ins_l hw_97 rfl) rfl (idx_in hb1.1 hb1.2).1 ?_
    refine PW.runs hw_97 rfl 1 (q := (25, [some (.ref 0), some (.int a), some (.int x2), some (.int x3)], [.int (σ 20 (Int32.toNatClampNeg x3)), .int x2], σ)) (q' := (26, [some (.ref 0), some (.int a), some (.int x2), some (.int x3)], [.int a, .int (σ 20 (Int32.toNatClampNeg x3)), .int x2], σ)) rfl ?_
    refine PW.callS (vs := [.int (σ 20 (Int32.toNatClampNeg x3)), .int a]) (rest := [.int x2]) (ins_l hw_97 rfl) rfl (Or.inl rfl) rfl (Nat.le_of_ble_eq_true rfl) (Nat.le_of_ble_eq_true rfl) (PW.mono h ?_)
    rintro _ σ1 ⟨v1, rfl, h⟩
    show PW none 97 29 [some (.ref 0), some (.int a), some (.int x2), some (.int x3)] [.int v1, .int x2] σ1 _
    refine PW.runs hw_97 rfl 6 (q := (29, [some (.ref 0), some (.int a), some (.int x2), some (.int x3)], [.int v1, .int x2], σ1)) (q' := (4, [some (.ref 0), some (.int a), some (.int (x2 ||| (v1 <<< (x3 &&& 31)))), some (.int (x3 + 1))], [], σ1)) rfl ?_
    exact h
theorem hw_114 : pins.getD 114 [] = pi_114 := rfl
/-! MapDutyModel.isLine.(I)Z -/
set_option maxRecDepth 20000 in
theorem w_114 {a : Int32} {σ : St} {K : Int32 → St → Prop} (h : CI 109 [.long (Int32.toInt64 a), .long 0, .long (Int32.toInt64 ((σ 39 1) - 1))] σ (fun v1 σ1 => ((v1 = 0 ∨ v1 = 1) ∧ K v1 σ1))) : CI 114 [.ref 39, .int a] σ K := by
  show PW none 114 0 [some (.ref 39), some (.int a)] [] σ _
  refine PW.runs hw_114 rfl 8 (q := (0, [some (.ref 39), some (.int a)], [], σ)) (q' := (10, [some (.ref 39), some (.int a)], [.long (Int32.toInt64 ((σ 39 1) - 1)), .long 0, .long (Int32.toInt64 a)], σ)) rfl ?_
  refine PW.callS (vs := [.long (Int32.toInt64 a), .long 0, .long (Int32.toInt64 ((σ 39 1) - 1))]) (rest := []) (ins_l hw_114 rfl) rfl (Or.inl rfl) rfl (Nat.le_of_ble_eq_true rfl) (Nat.le_of_ble_eq_true rfl) (PW.mono h ?_)
  rintro _ σ1 ⟨v1, rfl, h⟩
  show PW none 114 13 [some (.ref 39), some (.int a)] [.int v1] σ1 _
  exact PW.iret (ins_l hw_114 rfl) (Or.inr ⟨rfl, h.1⟩) ⟨_, rfl, h.2⟩
theorem hw_116 : pins.getD 116 [] = pi_116 := rfl
/-! MapDutyModel.isInspector.(I)Z -/
set_option maxRecDepth 20000 in
theorem w_116 {a : Int32} {σ : St} {K : Int32 → St → Prop} (h : CI 109 [.long (Int32.toInt64 a), .long 0, .long (Int32.toInt64 ((σ 39 9) - 1))] σ (fun v1 σ1 => ((v1 = 0 ∨ v1 = 1) ∧ K v1 σ1))) : CI 116 [.ref 39, .int a] σ K := by
  show PW none 116 0 [some (.ref 39), some (.int a)] [] σ _
  refine PW.runs hw_116 rfl 8 (q := (0, [some (.ref 39), some (.int a)], [], σ)) (q' := (10, [some (.ref 39), some (.int a)], [.long (Int32.toInt64 ((σ 39 9) - 1)), .long 0, .long (Int32.toInt64 a)], σ)) rfl ?_
  refine PW.callS (vs := [.long (Int32.toInt64 a), .long 0, .long (Int32.toInt64 ((σ 39 9) - 1))]) (rest := []) (ins_l hw_116 rfl) rfl (Or.inl rfl) rfl (Nat.le_of_ble_eq_true rfl) (Nat.le_of_ble_eq_true rfl) (PW.mono h ?_)
  rintro _ σ1 ⟨v1, rfl, h⟩
  show PW none 116 13 [some (.ref 39), some (.int a)] [.int v1] σ1 _
  exact PW.iret (ins_l hw_116 rfl) (Or.inr ⟨rfl, h.1⟩) ⟨_, rfl, h.2⟩
theorem hw_153 : pins.getD 153 [] = pi_153 := rfl
/-! MapDutyModel.remember.()V -/
set_option maxRecDepth 20000 in
theorem w_153  {σ : St} {K : St → Prop} (h : (if (σ 39 32) = 16 then PV 153 12 [some (.ref 39), some (.int 14)] [] σ K else PV 153 52 [some (.ref 39), some (.int 0)] [] σ K)) : CV 153 [.ref 39] σ K := by
  show PW none 153 0 [some (.ref 39), none] [] σ _
  refine PW.runs hw_153 rfl 3 (q := (0, [some (.ref 39), none], [], σ)) (q' := (6, [some (.ref 39), none], [.int 16, .int (σ 39 32)], σ)) rfl ?_
  refine PW.icm (t := 50) (ins_l hw_153 rfl) rfl (fun hc1 => ?_) (fun hc1 => ?_)
  · replace h := (if_neg (c_neT hc1)).mp h
    refine PW.runs hw_153 rfl 2 (q := (50, [some (.ref 39), none], [], σ)) (q' := (52, [some (.ref 39), some (.int 0)], [], σ)) rfl ?_
    exact h
  · replace h := (if_pos (c_neF hc1)).mp h
    refine PW.runs hw_153 rfl 2 (q := (9, [some (.ref 39), none], [], σ)) (q' := (12, [some (.ref 39), some (.int 14)], [], σ)) rfl ?_
    exact h
set_option maxRecDepth 20000 in
theorem w_153_12 {x1 : Int32} {σ : St} {K : St → Prop} (h : (if 224 ≤ x1 then PV 153 52 [some (.ref 39), some (.int 0)] [] (s2 σ 39 32 ((σ 39 32) - 1)) K else ((0 ≤ x1.toInt ∧ x1.toInt < 224) ∧ ((0 ≤ (x1 - 14).toInt ∧ (x1 - 14).toInt < 224) ∧ PV 153 12 [some (.ref 39), some (.int (x1 + 1))] [] (s2 σ 56 (Int32.toNatClampNeg (x1 - 14)) (σ 56 (Int32.toNatClampNeg x1))) K)))) : PV 153 12 [some (.ref 39), some (.int x1)] [] σ K := by
  show PW none 153 12 [some (.ref 39), some (.int x1)] [] σ _
  refine PW.runs hw_153 rfl 2 (q := (12, [some (.ref 39), some (.int x1)], [], σ)) (q' := (16, [some (.ref 39), some (.int x1)], [.int 224, .int x1], σ)) rfl ?_
  refine PW.icm (t := 40) (ins_l hw_153 rfl) rfl (fun hc1 => ?_) (fun hc1 => ?_)
  · replace h := (if_pos (c_geT hc1)).mp h
    refine PW.runs hw_153 rfl 8 (q := (40, [some (.ref 39), some (.int x1)], [], σ)) (q' := (52, [some (.ref 39), some (.int 0)], [], (s2 σ 39 32 ((σ 39 32) - 1)))) rfl ?_
    exact h
  · replace h := (if_neg (c_geF hc1)).mp h
    refine PW.runs hw_153 rfl 8 (q := (19, [some (.ref 39), some (.int x1)], [], σ)) (q' := (32, [some (.ref 39), some (.int x1)], [.int x1, .ref 56, .int (x1 - 14), .ref 56], σ)) rfl ?_
    obtain ⟨hb1, h⟩ := h
    refine PW.iald (n := 224) (ins_l hw_153 rfl) rfl (idx_in hb1.1 hb1.2).1 ?_
    obtain ⟨hb2, h⟩ := h
    refine PW.iast (n := 224) (ins_l hw_153 rfl) rfl (idx_in hb2.1 hb2.2).1 ?_
    refine PW.runs hw_153 rfl 2 (q := (34, [some (.ref 39), some (.int x1)], [], (s2 σ 56 (Int32.toNatClampNeg (x1 - 14)) (σ 56 (Int32.toNatClampNeg x1))))) (q' := (12, [some (.ref 39), some (.int (x1 + 1))], [], (s2 σ 56 (Int32.toNatClampNeg (x1 - 14)) (σ 56 (Int32.toNatClampNeg x1))))) rfl ?_
    exact h
set_option maxRecDepth 20000 in
theorem w_153_52 {x1 : Int32} {σ : St} {K : St → Prop} (h : (if 14 ≤ x1 then K (s2 σ 39 32 ((σ 39 32) + 1)) else ((0 ≤ x1.toInt ∧ x1.toInt < 14) ∧ ((0 ≤ ((14 * (σ 39 32)) + x1).toInt ∧ ((14 * (σ 39 32)) + x1).toInt < 224) ∧ PV 153 52 [some (.ref 39), some (.int (x1 + 1))] [] (s2 σ 56 (Int32.toNatClampNeg ((14 * (σ 39 32)) + x1)) (σ 46 (Int32.toNatClampNeg x1))) K)))) : PV 153 52 [some (.ref 39), some (.int x1)] [] σ K := by
  show PW none 153 52 [some (.ref 39), some (.int x1)] [] σ _
  refine PW.runs hw_153 rfl 2 (q := (52, [some (.ref 39), some (.int x1)], [], σ)) (q' := (55, [some (.ref 39), some (.int x1)], [.int 14, .int x1], σ)) rfl ?_
  refine PW.icm (t := 84) (ins_l hw_153 rfl) rfl (fun hc1 => ?_) (fun hc1 => ?_)
  · replace h := (if_pos (c_geT hc1)).mp h
    refine PW.runs hw_153 rfl 6 (q := (84, [some (.ref 39), some (.int x1)], [], σ)) (q' := (94, [some (.ref 39), some (.int x1)], [], (s2 σ 39 32 ((σ 39 32) + 1)))) rfl ?_
    exact PW.vret (ins_l hw_153 rfl) rfl ⟨rfl, h⟩
  · replace h := (if_neg (c_geF hc1)).mp h
    refine PW.runs hw_153 rfl 11 (q := (58, [some (.ref 39), some (.int x1)], [], σ)) (q' := (76, [some (.ref 39), some (.int x1)], [.int x1, .ref 46, .int ((14 * (σ 39 32)) + x1), .ref 56], σ)) rfl ?_
    obtain ⟨hb1, h⟩ := h
    refine PW.iald (n := 14) (ins_l hw_153 rfl) rfl (idx_in hb1.1 hb1.2).1 ?_
    obtain ⟨hb2, h⟩ := h
    refine PW.iast (n := 224) (ins_l hw_153 rfl) rfl (idx_in hb2.1 hb2.2).1 ?_
    refine PW.runs hw_153 rfl 2 (q := (78, [some (.ref 39), some (.int x1)], [], (s2 σ 56 (Int32.toNatClampNeg ((14 * (σ 39 32)) + x1)) (σ 46 (Int32.toNatClampNeg x1))))) (q' := (52, [some (.ref 39), some (.int (x1 + 1))], [], (s2 σ 56 (Int32.toNatClampNeg ((14 * (σ 39 32)) + x1)) (σ 46 (Int32.toNatClampNeg x1))))) rfl ?_
    exact h
theorem hw_154 : pins.getD 154 [] = pi_154 := rfl
/-! MapDutyModel.draw.(IIZ)I -/
set_option maxRecDepth 20000 in
theorem w_154 {a : Int32} {b : Int32} {c : Int32} {σ : St} {K : Int32 → St → Prop} (h : CI 115 [.ref 39, .int a] σ (fun v1 σ1 => (if v1 = 0 then K (-1000000001) σ1 else CI 114 [.ref 39, .int b] σ1 (fun v2 σ2 => (if v2 = 0 then K (-1000000001) σ2 else CV 153 [.ref 39] σ2 (fun σ3 => ((0 ≤ a.toInt ∧ a.toInt < 14) ∧ (if c = 0 then K (((σ3 46 (Int32.toNatClampNeg a)) >>> (b &&& 31)) &&& 1) (s2 σ3 46 (Int32.toNatClampNeg a) ((σ3 46 (Int32.toNatClampNeg a)) &&& ((1 <<< (b &&& 31)) ^^^ (-1)))) else K (((σ3 46 (Int32.toNatClampNeg a)) >>> (b &&& 31)) &&& 1) (s2 σ3 46 (Int32.toNatClampNeg a) ((σ3 46 (Int32.toNatClampNeg a)) ||| (1 <<< (b &&& 31)))))))))))) : CI 154 [.ref 39, .int a, .int b, .int c] σ K := by
  show PW none 154 0 [some (.ref 39), some (.int a), some (.int b), some (.int c), none] [] σ _
  refine PW.runs hw_154 rfl 2 (q := (0, [some (.ref 39), some (.int a), some (.int b), some (.int c), none], [], σ)) (q' := (2, [some (.ref 39), some (.int a), some (.int b), some (.int c), none], [.int a, .ref 39], σ)) rfl ?_
  refine PW.callV (b := 39) (vs := [.int a]) (rest := []) (ins_l hw_154 rfl) rfl rfl rfl (Nat.le_of_ble_eq_true rfl) (Nat.le_of_ble_eq_true rfl) (PW.mono h ?_)
  rintro _ σ1 ⟨v1, rfl, h⟩
  show PW none 154 5 [some (.ref 39), some (.int a), some (.int b), some (.int c), none] [.int v1] σ1 _
  refine PW.ifc (t := 16) (ins_l hw_154 rfl) rfl (fun hc1 => ?_) (fun hc1 => ?_)
  · replace h := (if_pos (c_eqT hc1)).mp h
    refine PW.runs hw_154 rfl 1 (q := (16, [some (.ref 39), some (.int a), some (.int b), some (.int c), none], [], σ1)) (q' := (18, [some (.ref 39), some (.int a), some (.int b), some (.int c), none], [.int (-1000000001)], σ1)) rfl ?_
    exact PW.iret (ins_l hw_154 rfl) (Or.inl rfl) ⟨_, rfl, h⟩
  · replace h := (if_neg (c_eqF hc1)).mp h
    refine PW.runs hw_154 rfl 2 (q := (8, [some (.ref 39), some (.int a), some (.int b), some (.int c), none], [], σ1)) (q' := (10, [some (.ref 39), some (.int a), some (.int b), some (.int c), none], [.int b, .ref 39], σ1)) rfl ?_
    refine PW.callV (b := 39) (vs := [.int b]) (rest := []) (ins_l hw_154 rfl) rfl rfl rfl (Nat.le_of_ble_eq_true rfl) (Nat.le_of_ble_eq_true rfl) (PW.mono h ?_)
    rintro _ σ2 ⟨v2, rfl, h⟩
    show PW none 154 13 [some (.ref 39), some (.int a), some (.int b), some (.int c), none] [.int v2] σ2 _
    refine PW.ifc (t := 19) (ins_l hw_154 rfl) rfl (fun hc2 => ?_) (fun hc2 => ?_)
    · replace h := (if_neg (c_neT hc2)).mp h
      refine PW.runs hw_154 rfl 1 (q := (19, [some (.ref 39), some (.int a), some (.int b), some (.int c), none], [], σ2)) (q' := (20, [some (.ref 39), some (.int a), some (.int b), some (.int c), none], [.ref 39], σ2)) rfl ?_
      refine PW.callV (b := 39) (vs := []) (rest := []) (ins_l hw_154 rfl) rfl rfl rfl (Nat.le_of_ble_eq_true rfl) (Nat.le_of_ble_eq_true rfl) (PW.mono h ?_)
      rintro _ σ3 ⟨rfl, h⟩
      show PW none 154 23 [some (.ref 39), some (.int a), some (.int b), some (.int c), none] [] σ3 _
      refine PW.runs hw_154 rfl 3 (q := (23, [some (.ref 39), some (.int a), some (.int b), some (.int c), none], [], σ3)) (q' := (28, [some (.ref 39), some (.int a), some (.int b), some (.int c), none], [.int a, .ref 46], σ3)) rfl ?_
      obtain ⟨hb1, h⟩ := h
      refine PW.iald (n := 14) (ins_l hw_154 rfl) rfl (idx_in hb1.1 hb1.2).1 ?_
      refine PW.runs hw_154 rfl 9 (q := (29, [some (.ref 39), some (.int a), some (.int b), some (.int c), none], [.int (σ3 46 (Int32.toNatClampNeg a))], σ3)) (q' := (41, [some (.ref 39), some (.int a), some (.int b), some (.int c), some (.int (((σ3 46 (Int32.toNatClampNeg a)) >>> (b &&& 31)) &&& 1))], [.int c, .int a, .ref 46], σ3)) rfl ?_
      refine PW.ifc (t := 57) (ins_l hw_154 rfl) rfl (fun hc3 => ?_) (fun hc3 => ?_)
      · replace h := (if_pos (c_eqT hc3)).mp h
        refine PW.runs hw_154 rfl 3 (q := (57, [some (.ref 39), some (.int a), some (.int b), some (.int c), some (.int (((σ3 46 (Int32.toNatClampNeg a)) >>> (b &&& 31)) &&& 1))], [.int a, .ref 46], σ3)) (q' := (62, [some (.ref 39), some (.int a), some (.int b), some (.int c), some (.int (((σ3 46 (Int32.toNatClampNeg a)) >>> (b &&& 31)) &&& 1))], [.int a, .ref 46, .int a, .ref 46], σ3)) rfl ?_
        refine PW.iald (n := 14) (ins_l hw_154 rfl) rfl (idx_in hb1.1 hb1.2).1 ?_
        refine PW.runs hw_154 rfl 6 (q := (63, [some (.ref 39), some (.int a), some (.int b), some (.int c), some (.int (((σ3 46 (Int32.toNatClampNeg a)) >>> (b &&& 31)) &&& 1))], [.int (σ3 46 (Int32.toNatClampNeg a)), .int a, .ref 46], σ3)) (q' := (69, [some (.ref 39), some (.int a), some (.int b), some (.int c), some (.int (((σ3 46 (Int32.toNatClampNeg a)) >>> (b &&& 31)) &&& 1))], [.int ((σ3 46 (Int32.toNatClampNeg a)) &&& ((1 <<< (b &&& 31)) ^^^ (-1))), .int a, .ref 46], σ3)) rfl ?_
        refine PW.iast (n := 14) (ins_l hw_154 rfl) rfl (idx_in hb1.1 hb1.2).1 ?_
        refine PW.runs hw_154 rfl 1 (q := (70, [some (.ref 39), some (.int a), some (.int b), some (.int c), some (.int (((σ3 46 (Int32.toNatClampNeg a)) >>> (b &&& 31)) &&& 1))], [], (s2 σ3 46 (Int32.toNatClampNeg a) ((σ3 46 (Int32.toNatClampNeg a)) &&& ((1 <<< (b &&& 31)) ^^^ (-1)))))) (q' := (72, [some (.ref 39), some (.int a), some (.int b), some (.int c), some (.int (((σ3 46 (Int32.toNatClampNeg a)) >>> (b &&& 31)) &&& 1))], [.int (((σ3 46 (Int32.toNatClampNeg a)) >>> (b &&& 31)) &&& 1)], (s2 σ3 46 (Int32.toNatClampNeg a) ((σ3 46 (Int32.toNatClampNeg a)) &&& ((1 <<< (b &&& 31)) ^^^ (-1)))))) rfl ?_
        exact PW.iret (ins_l hw_154 rfl) (Or.inl rfl) ⟨_, rfl, h⟩
      · replace h := (if_neg (c_eqF hc3)).mp h
        refine PW.runs hw_154 rfl 3 (q := (44, [some (.ref 39), some (.int a), some (.int b), some (.int c), some (.int (((σ3 46 (Int32.toNatClampNeg a)) >>> (b &&& 31)) &&& 1))], [.int a, .ref 46], σ3)) (q' := (49, [some (.ref 39), some (.int a), some (.int b), some (.int c), some (.int (((σ3 46 (Int32.toNatClampNeg a)) >>> (b &&& 31)) &&& 1))], [.int a, .ref 46, .int a, .ref 46], σ3)) rfl ?_
        refine PW.iald (n := 14) (ins_l hw_154 rfl) rfl (idx_in hb1.1 hb1.2).1 ?_
        refine PW.runs hw_154 rfl 5 (q := (50, [some (.ref 39), some (.int a), some (.int b), some (.int c), some (.int (((σ3 46 (Int32.toNatClampNeg a)) >>> (b &&& 31)) &&& 1))], [.int (σ3 46 (Int32.toNatClampNeg a)), .int a, .ref 46], σ3)) (q' := (69, [some (.ref 39), some (.int a), some (.int b), some (.int c), some (.int (((σ3 46 (Int32.toNatClampNeg a)) >>> (b &&& 31)) &&& 1))], [.int ((σ3 46 (Int32.toNatClampNeg a)) ||| (1 <<< (b &&& 31))), .int a, .ref 46], σ3)) rfl ?_
        refine PW.iast (n := 14) (ins_l hw_154 rfl) rfl (idx_in hb1.1 hb1.2).1 ?_
        refine PW.runs hw_154 rfl 1 (q := (70, [some (.ref 39), some (.int a), some (.int b), some (.int c), some (.int (((σ3 46 (Int32.toNatClampNeg a)) >>> (b &&& 31)) &&& 1))], [], (s2 σ3 46 (Int32.toNatClampNeg a) ((σ3 46 (Int32.toNatClampNeg a)) ||| (1 <<< (b &&& 31)))))) (q' := (72, [some (.ref 39), some (.int a), some (.int b), some (.int c), some (.int (((σ3 46 (Int32.toNatClampNeg a)) >>> (b &&& 31)) &&& 1))], [.int (((σ3 46 (Int32.toNatClampNeg a)) >>> (b &&& 31)) &&& 1)], (s2 σ3 46 (Int32.toNatClampNeg a) ((σ3 46 (Int32.toNatClampNeg a)) ||| (1 <<< (b &&& 31)))))) rfl ?_
        exact PW.iret (ins_l hw_154 rfl) (Or.inl rfl) ⟨_, rfl, h⟩
    · replace h := (if_pos (c_neF hc2)).mp h
      refine PW.runs hw_154 rfl 1 (q := (16, [some (.ref 39), some (.int a), some (.int b), some (.int c), none], [], σ2)) (q' := (18, [some (.ref 39), some (.int a), some (.int b), some (.int c), none], [.int (-1000000001)], σ2)) rfl ?_
      exact PW.iret (ins_l hw_154 rfl) (Or.inl rfl) ⟨_, rfl, h⟩
theorem hw_155 : pins.getD 155 [] = pi_155 := rfl
/-! MapDutyModel.move.(IZ)I -/
set_option maxRecDepth 20000 in
theorem w_155 {a : Int32} {b : Int32} {σ : St} {K : Int32 → St → Prop} (h : CI 114 [.ref 39, .int a] σ (fun v1 σ1 => (if v1 = 0 then K (-1000000001) σ1 else CV 153 [.ref 39] σ1 (fun σ2 => (if b = 0 then K (((σ2 46 10) >>> (a &&& 31)) &&& 1) (s2 σ2 46 10 ((σ2 46 10) &&& ((1 <<< (a &&& 31)) ^^^ (-1)))) else K (((σ2 46 10) >>> (a &&& 31)) &&& 1) (s2 σ2 46 10 ((σ2 46 10) ||| (1 <<< (a &&& 31))))))))) : CI 155 [.ref 39, .int a, .int b] σ K := by
  show PW none 155 0 [some (.ref 39), some (.int a), some (.int b), none] [] σ _
  refine PW.runs hw_155 rfl 2 (q := (0, [some (.ref 39), some (.int a), some (.int b), none], [], σ)) (q' := (2, [some (.ref 39), some (.int a), some (.int b), none], [.int a, .ref 39], σ)) rfl ?_
  refine PW.callV (b := 39) (vs := [.int a]) (rest := []) (ins_l hw_155 rfl) rfl rfl rfl (Nat.le_of_ble_eq_true rfl) (Nat.le_of_ble_eq_true rfl) (PW.mono h ?_)
  rintro _ σ1 ⟨v1, rfl, h⟩
  show PW none 155 5 [some (.ref 39), some (.int a), some (.int b), none] [.int v1] σ1 _
  refine PW.ifc (t := 11) (ins_l hw_155 rfl) rfl (fun hc1 => ?_) (fun hc1 => ?_)
  · replace h := (if_neg (c_neT hc1)).mp h
    refine PW.runs hw_155 rfl 1 (q := (11, [some (.ref 39), some (.int a), some (.int b), none], [], σ1)) (q' := (12, [some (.ref 39), some (.int a), some (.int b), none], [.ref 39], σ1)) rfl ?_
    refine PW.callV (b := 39) (vs := []) (rest := []) (ins_l hw_155 rfl) rfl rfl rfl (Nat.le_of_ble_eq_true rfl) (Nat.le_of_ble_eq_true rfl) (PW.mono h ?_)
    rintro _ σ2 ⟨rfl, h⟩
    show PW none 155 15 [some (.ref 39), some (.int a), some (.int b), none] [] σ2 _
    refine PW.runs hw_155 rfl 3 (q := (15, [some (.ref 39), some (.int a), some (.int b), none], [], σ2)) (q' := (21, [some (.ref 39), some (.int a), some (.int b), none], [.int 10, .ref 46], σ2)) rfl ?_
    refine PW.iald (n := 14) (ins_l hw_155 rfl) rfl (by decide) ?_
    refine PW.runs hw_155 rfl 9 (q := (22, [some (.ref 39), some (.int a), some (.int b), none], [.int (σ2 46 10)], σ2)) (q' := (34, [some (.ref 39), some (.int a), some (.int b), some (.int (((σ2 46 10) >>> (a &&& 31)) &&& 1))], [.int b, .int 10, .ref 46], σ2)) rfl ?_
    refine PW.ifc (t := 51) (ins_l hw_155 rfl) rfl (fun hc2 => ?_) (fun hc2 => ?_)
    · replace h := (if_pos (c_eqT hc2)).mp h
      refine PW.runs hw_155 rfl 3 (q := (51, [some (.ref 39), some (.int a), some (.int b), some (.int (((σ2 46 10) >>> (a &&& 31)) &&& 1))], [.int 10, .ref 46], σ2)) (q' := (57, [some (.ref 39), some (.int a), some (.int b), some (.int (((σ2 46 10) >>> (a &&& 31)) &&& 1))], [.int 10, .ref 46, .int 10, .ref 46], σ2)) rfl ?_
      refine PW.iald (n := 14) (ins_l hw_155 rfl) rfl (by decide) ?_
      refine PW.runs hw_155 rfl 6 (q := (58, [some (.ref 39), some (.int a), some (.int b), some (.int (((σ2 46 10) >>> (a &&& 31)) &&& 1))], [.int (σ2 46 10), .int 10, .ref 46], σ2)) (q' := (64, [some (.ref 39), some (.int a), some (.int b), some (.int (((σ2 46 10) >>> (a &&& 31)) &&& 1))], [.int ((σ2 46 10) &&& ((1 <<< (a &&& 31)) ^^^ (-1))), .int 10, .ref 46], σ2)) rfl ?_
      refine PW.iast (n := 14) (ins_l hw_155 rfl) rfl (by decide) ?_
      refine PW.runs hw_155 rfl 1 (q := (65, [some (.ref 39), some (.int a), some (.int b), some (.int (((σ2 46 10) >>> (a &&& 31)) &&& 1))], [], (s2 σ2 46 10 ((σ2 46 10) &&& ((1 <<< (a &&& 31)) ^^^ (-1)))))) (q' := (66, [some (.ref 39), some (.int a), some (.int b), some (.int (((σ2 46 10) >>> (a &&& 31)) &&& 1))], [.int (((σ2 46 10) >>> (a &&& 31)) &&& 1)], (s2 σ2 46 10 ((σ2 46 10) &&& ((1 <<< (a &&& 31)) ^^^ (-1)))))) rfl ?_
      exact PW.iret (ins_l hw_155 rfl) (Or.inl rfl) ⟨_, rfl, h⟩
    · replace h := (if_neg (c_eqF hc2)).mp h
      refine PW.runs hw_155 rfl 3 (q := (37, [some (.ref 39), some (.int a), some (.int b), some (.int (((σ2 46 10) >>> (a &&& 31)) &&& 1))], [.int 10, .ref 46], σ2)) (q' := (43, [some (.ref 39), some (.int a), some (.int b), some (.int (((σ2 46 10) >>> (a &&& 31)) &&& 1))], [.int 10, .ref 46, .int 10, .ref 46], σ2)) rfl ?_
      refine PW.iald (n := 14) (ins_l hw_155 rfl) rfl (by decide) ?_
      refine PW.runs hw_155 rfl 5 (q := (44, [some (.ref 39), some (.int a), some (.int b), some (.int (((σ2 46 10) >>> (a &&& 31)) &&& 1))], [.int (σ2 46 10), .int 10, .ref 46], σ2)) (q' := (64, [some (.ref 39), some (.int a), some (.int b), some (.int (((σ2 46 10) >>> (a &&& 31)) &&& 1))], [.int ((σ2 46 10) ||| (1 <<< (a &&& 31))), .int 10, .ref 46], σ2)) rfl ?_
      refine PW.iast (n := 14) (ins_l hw_155 rfl) rfl (by decide) ?_
      refine PW.runs hw_155 rfl 1 (q := (65, [some (.ref 39), some (.int a), some (.int b), some (.int (((σ2 46 10) >>> (a &&& 31)) &&& 1))], [], (s2 σ2 46 10 ((σ2 46 10) ||| (1 <<< (a &&& 31)))))) (q' := (66, [some (.ref 39), some (.int a), some (.int b), some (.int (((σ2 46 10) >>> (a &&& 31)) &&& 1))], [.int (((σ2 46 10) >>> (a &&& 31)) &&& 1)], (s2 σ2 46 10 ((σ2 46 10) ||| (1 <<< (a &&& 31)))))) rfl ?_
      exact PW.iret (ins_l hw_155 rfl) (Or.inl rfl) ⟨_, rfl, h⟩
  · replace h := (if_pos (c_neF hc1)).mp h
    refine PW.runs hw_155 rfl 1 (q := (8, [some (.ref 39), some (.int a), some (.int b), none], [], σ1)) (q' := (10, [some (.ref 39), some (.int a), some (.int b), none], [.int (-1000000001)], σ1)) rfl ?_
    exact PW.iret (ins_l hw_155 rfl) (Or.inl rfl) ⟨_, rfl, h⟩
theorem hw_156 : pins.getD 156 [] = pi_156 := rfl
/-! MapDutyModel.copy.(II)I -/
set_option maxRecDepth 20000 in
theorem w_156 {a : Int32} {b : Int32} {σ : St} {K : Int32 → St → Prop} (h : CI 115 [.ref 39, .int a] σ (fun v1 σ1 => (if v1 = 0 then K (-1000000001) σ1 else CI 115 [.ref 39, .int b] σ1 (fun v2 σ2 => (if v2 = 0 then K (-1000000001) σ2 else (if a = b then K (-1000000001) σ2 else CV 153 [.ref 39] σ2 (fun σ3 => ((0 ≤ a.toInt ∧ a.toInt < 14) ∧ ((0 ≤ b.toInt ∧ b.toInt < 14) ∧ K (σ3 46 (Int32.toNatClampNeg a)) (s2 σ3 46 (Int32.toNatClampNeg a) (σ3 46 (Int32.toNatClampNeg b)))))))))))) : CI 156 [.ref 39, .int a, .int b] σ K := by
  show PW none 156 0 [some (.ref 39), some (.int a), some (.int b), none] [] σ _
  refine PW.runs hw_156 rfl 2 (q := (0, [some (.ref 39), some (.int a), some (.int b), none], [], σ)) (q' := (2, [some (.ref 39), some (.int a), some (.int b), none], [.int a, .ref 39], σ)) rfl ?_
  refine PW.callV (b := 39) (vs := [.int a]) (rest := []) (ins_l hw_156 rfl) rfl rfl rfl (Nat.le_of_ble_eq_true rfl) (Nat.le_of_ble_eq_true rfl) (PW.mono h ?_)
  rintro _ σ1 ⟨v1, rfl, h⟩
  show PW none 156 5 [some (.ref 39), some (.int a), some (.int b), none] [.int v1] σ1 _
  refine PW.ifc (t := 21) (ins_l hw_156 rfl) rfl (fun hc1 => ?_) (fun hc1 => ?_)
  · replace h := (if_pos (c_eqT hc1)).mp h
    refine PW.runs hw_156 rfl 1 (q := (21, [some (.ref 39), some (.int a), some (.int b), none], [], σ1)) (q' := (23, [some (.ref 39), some (.int a), some (.int b), none], [.int (-1000000001)], σ1)) rfl ?_
    exact PW.iret (ins_l hw_156 rfl) (Or.inl rfl) ⟨_, rfl, h⟩
  · replace h := (if_neg (c_eqF hc1)).mp h
    refine PW.runs hw_156 rfl 2 (q := (8, [some (.ref 39), some (.int a), some (.int b), none], [], σ1)) (q' := (10, [some (.ref 39), some (.int a), some (.int b), none], [.int b, .ref 39], σ1)) rfl ?_
    refine PW.callV (b := 39) (vs := [.int b]) (rest := []) (ins_l hw_156 rfl) rfl rfl rfl (Nat.le_of_ble_eq_true rfl) (Nat.le_of_ble_eq_true rfl) (PW.mono h ?_)
    rintro _ σ2 ⟨v2, rfl, h⟩
    show PW none 156 13 [some (.ref 39), some (.int a), some (.int b), none] [.int v2] σ2 _
    refine PW.ifc (t := 21) (ins_l hw_156 rfl) rfl (fun hc2 => ?_) (fun hc2 => ?_)
    · replace h := (if_pos (c_eqT hc2)).mp h
      refine PW.runs hw_156 rfl 1 (q := (21, [some (.ref 39), some (.int a), some (.int b), none], [], σ2)) (q' := (23, [some (.ref 39), some (.int a), some (.int b), none], [.int (-1000000001)], σ2)) rfl ?_
      exact PW.iret (ins_l hw_156 rfl) (Or.inl rfl) ⟨_, rfl, h⟩
    · replace h := (if_neg (c_eqF hc2)).mp h
      refine PW.runs hw_156 rfl 2 (q := (16, [some (.ref 39), some (.int a), some (.int b), none], [], σ2)) (q' := (18, [some (.ref 39), some (.int a), some (.int b), none], [.int b, .int a], σ2)) rfl ?_
      refine PW.icm (t := 24) (ins_l hw_156 rfl) rfl (fun hc3 => ?_) (fun hc3 => ?_)
      · replace h := (if_neg (c_neT hc3)).mp h
        refine PW.runs hw_156 rfl 1 (q := (24, [some (.ref 39), some (.int a), some (.int b), none], [], σ2)) (q' := (25, [some (.ref 39), some (.int a), some (.int b), none], [.ref 39], σ2)) rfl ?_
        refine PW.callV (b := 39) (vs := []) (rest := []) (ins_l hw_156 rfl) rfl rfl rfl (Nat.le_of_ble_eq_true rfl) (Nat.le_of_ble_eq_true rfl) (PW.mono h ?_)
        rintro _ σ3 ⟨rfl, h⟩
        show PW none 156 28 [some (.ref 39), some (.int a), some (.int b), none] [] σ3 _
        refine PW.runs hw_156 rfl 3 (q := (28, [some (.ref 39), some (.int a), some (.int b), none], [], σ3)) (q' := (33, [some (.ref 39), some (.int a), some (.int b), none], [.int a, .ref 46], σ3)) rfl ?_
        obtain ⟨hb1, h⟩ := h
        refine PW.iald (n := 14) (ins_l hw_156 rfl) rfl (idx_in hb1.1 hb1.2).1 ?_
        refine PW.runs hw_156 rfl 7 (q := (34, [some (.ref 39), some (.int a), some (.int b), none], [.int (σ3 46 (Int32.toNatClampNeg a))], σ3)) (q' := (45, [some (.ref 39), some (.int a), some (.int b), some (.int (σ3 46 (Int32.toNatClampNeg a)))], [.int b, .ref 46, .int a, .ref 46], σ3)) rfl ?_
        obtain ⟨hb2, h⟩ := h
        refine PW.iald (n := 14) (ins_l hw_156 rfl) rfl (idx_in hb2.1 hb2.2).1 ?_
        refine PW.iast (n := 14) (ins_l hw_156 rfl) rfl (idx_in hb1.1 hb1.2).1 ?_
        refine PW.runs hw_156 rfl 1 (q := (47, [some (.ref 39), some (.int a), some (.int b), some (.int (σ3 46 (Int32.toNatClampNeg a)))], [], (s2 σ3 46 (Int32.toNatClampNeg a) (σ3 46 (Int32.toNatClampNeg b))))) (q' := (48, [some (.ref 39), some (.int a), some (.int b), some (.int (σ3 46 (Int32.toNatClampNeg a)))], [.int (σ3 46 (Int32.toNatClampNeg a))], (s2 σ3 46 (Int32.toNatClampNeg a) (σ3 46 (Int32.toNatClampNeg b))))) rfl ?_
        exact PW.iret (ins_l hw_156 rfl) (Or.inl rfl) ⟨_, rfl, h⟩
      · replace h := (if_pos (c_neF hc3)).mp h
        refine PW.runs hw_156 rfl 1 (q := (21, [some (.ref 39), some (.int a), some (.int b), none], [], σ2)) (q' := (23, [some (.ref 39), some (.int a), some (.int b), none], [.int (-1000000001)], σ2)) rfl ?_
        exact PW.iret (ins_l hw_156 rfl) (Or.inl rfl) ⟨_, rfl, h⟩
theorem hw_157 : pins.getD 157 [] = pi_157 := rfl
/-! MapDutyModel.assess.(I)I -/
set_option maxRecDepth 20000 in
theorem w_157 {a : Int32} {σ : St} {K : Int32 → St → Prop} (h : CI 115 [.ref 39, .int a] σ (fun v1 σ1 => (if v1 = 0 then K (-1000000001) σ1 else CV 153 [.ref 39] σ1 (fun σ2 => ((0 ≤ (5 + a).toInt ∧ (5 + a).toInt < 14) ∧ CI 136 [.ref 39, .int a] σ2 (fun v3 σ3 => (if 999999 ≤ (((s2 σ3 46 (Int32.toNatClampNeg (5 + a)) 0) 46 11) + ((σ2 46 (Int32.toNatClampNeg (5 + a))) + v3)) then K ((σ2 46 (Int32.toNatClampNeg (5 + a))) + v3) (s2 (s2 σ3 46 (Int32.toNatClampNeg (5 + a)) 0) 46 11 999999) else K ((σ2 46 (Int32.toNatClampNeg (5 + a))) + v3) (s2 (s2 σ3 46 (Int32.toNatClampNeg (5 + a)) 0) 46 11 (((s2 σ3 46 (Int32.toNatClampNeg (5 + a)) 0) 46 11) + ((σ2 46 (Int32.toNatClampNeg (5 + a))) + v3)))))))))) : CI 157 [.ref 39, .int a] σ K := by
  show PW none 157 0 [some (.ref 39), some (.int a), none] [] σ _
  refine PW.runs hw_157 rfl 2 (q := (0, [some (.ref 39), some (.int a), none], [], σ)) (q' := (2, [some (.ref 39), some (.int a), none], [.int a, .ref 39], σ)) rfl ?_
  refine PW.callV (b := 39) (vs := [.int a]) (rest := []) (ins_l hw_157 rfl) rfl rfl rfl (Nat.le_of_ble_eq_true rfl) (Nat.le_of_ble_eq_true rfl) (PW.mono h ?_)
  rintro _ σ1 ⟨v1, rfl, h⟩
  show PW none 157 5 [some (.ref 39), some (.int a), none] [.int v1] σ1 _
  refine PW.ifc (t := 11) (ins_l hw_157 rfl) rfl (fun hc1 => ?_) (fun hc1 => ?_)
  · replace h := (if_neg (c_neT hc1)).mp h
    refine PW.runs hw_157 rfl 1 (q := (11, [some (.ref 39), some (.int a), none], [], σ1)) (q' := (12, [some (.ref 39), some (.int a), none], [.ref 39], σ1)) rfl ?_
    refine PW.callV (b := 39) (vs := []) (rest := []) (ins_l hw_157 rfl) rfl rfl rfl (Nat.le_of_ble_eq_true rfl) (Nat.le_of_ble_eq_true rfl) (PW.mono h ?_)
    rintro _ σ2 ⟨rfl, h⟩
    show PW none 157 15 [some (.ref 39), some (.int a), none] [] σ2 _
    refine PW.runs hw_157 rfl 5 (q := (15, [some (.ref 39), some (.int a), none], [], σ2)) (q' := (22, [some (.ref 39), some (.int a), none], [.int (5 + a), .ref 46], σ2)) rfl ?_
    obtain ⟨hb1, h⟩ := h
    refine PW.iald (n := 14) (ins_l hw_157 rfl) rfl (idx_in hb1.1 hb1.2).1 ?_
    refine PW.runs hw_157 rfl 2 (q := (23, [some (.ref 39), some (.int a), none], [.int (σ2 46 (Int32.toNatClampNeg (5 + a)))], σ2)) (q' := (25, [some (.ref 39), some (.int a), none], [.int a, .ref 39, .int (σ2 46 (Int32.toNatClampNeg (5 + a)))], σ2)) rfl ?_
    refine PW.callV (b := 39) (vs := [.int a]) (rest := [.int (σ2 46 (Int32.toNatClampNeg (5 + a)))]) (ins_l hw_157 rfl) rfl rfl rfl (Nat.le_of_ble_eq_true rfl) (Nat.le_of_ble_eq_true rfl) (PW.mono h ?_)
    rintro _ σ3 ⟨v3, rfl, h⟩
    show PW none 157 28 [some (.ref 39), some (.int a), none] [.int v3, .int (σ2 46 (Int32.toNatClampNeg (5 + a)))] σ3 _
    refine PW.runs hw_157 rfl 8 (q := (28, [some (.ref 39), some (.int a), none], [.int v3, .int (σ2 46 (Int32.toNatClampNeg (5 + a)))], σ3)) (q' := (38, [some (.ref 39), some (.int a), some (.int ((σ2 46 (Int32.toNatClampNeg (5 + a))) + v3))], [.int 0, .int (5 + a), .ref 46], σ3)) rfl ?_
    refine PW.iast (n := 14) (ins_l hw_157 rfl) rfl (idx_in hb1.1 hb1.2).1 ?_
    refine PW.runs hw_157 rfl 6 (q := (39, [some (.ref 39), some (.int a), some (.int ((σ2 46 (Int32.toNatClampNeg (5 + a))) + v3))], [], (s2 σ3 46 (Int32.toNatClampNeg (5 + a)) 0))) (q' := (51, [some (.ref 39), some (.int a), some (.int ((σ2 46 (Int32.toNatClampNeg (5 + a))) + v3))], [.int 11, .ref 46, .int 11, .ref 46], (s2 σ3 46 (Int32.toNatClampNeg (5 + a)) 0))) rfl ?_
    refine PW.iald (n := 14) (ins_l hw_157 rfl) rfl (by decide) ?_
    refine PW.runs hw_157 rfl 3 (q := (52, [some (.ref 39), some (.int a), some (.int ((σ2 46 (Int32.toNatClampNeg (5 + a))) + v3))], [.int ((s2 σ3 46 (Int32.toNatClampNeg (5 + a)) 0) 46 11), .int 11, .ref 46], (s2 σ3 46 (Int32.toNatClampNeg (5 + a)) 0))) (q' := (57, [some (.ref 39), some (.int a), some (.int ((σ2 46 (Int32.toNatClampNeg (5 + a))) + v3))], [.int 999999, .int (((s2 σ3 46 (Int32.toNatClampNeg (5 + a)) 0) 46 11) + ((σ2 46 (Int32.toNatClampNeg (5 + a))) + v3)), .int 11, .ref 46], (s2 σ3 46 (Int32.toNatClampNeg (5 + a)) 0))) rfl ?_
    refine PW.icm (t := 72) (ins_l hw_157 rfl) rfl (fun hc2 => ?_) (fun hc2 => ?_)
    · replace h := (if_pos (c_geT hc2)).mp h
      refine PW.runs hw_157 rfl 1 (q := (72, [some (.ref 39), some (.int a), some (.int ((σ2 46 (Int32.toNatClampNeg (5 + a))) + v3))], [.int 11, .ref 46], (s2 σ3 46 (Int32.toNatClampNeg (5 + a)) 0))) (q' := (75, [some (.ref 39), some (.int a), some (.int ((σ2 46 (Int32.toNatClampNeg (5 + a))) + v3))], [.int 999999, .int 11, .ref 46], (s2 σ3 46 (Int32.toNatClampNeg (5 + a)) 0))) rfl ?_
      refine PW.iast (n := 14) (ins_l hw_157 rfl) rfl (by decide) ?_
      refine PW.runs hw_157 rfl 1 (q := (76, [some (.ref 39), some (.int a), some (.int ((σ2 46 (Int32.toNatClampNeg (5 + a))) + v3))], [], (s2 (s2 σ3 46 (Int32.toNatClampNeg (5 + a)) 0) 46 11 999999))) (q' := (77, [some (.ref 39), some (.int a), some (.int ((σ2 46 (Int32.toNatClampNeg (5 + a))) + v3))], [.int ((σ2 46 (Int32.toNatClampNeg (5 + a))) + v3)], (s2 (s2 σ3 46 (Int32.toNatClampNeg (5 + a)) 0) 46 11 999999))) rfl ?_
      exact PW.iret (ins_l hw_157 rfl) (Or.inl rfl) ⟨_, rfl, h⟩
    · replace h := (if_neg (c_geF hc2)).mp h
      refine PW.runs hw_157 rfl 3 (q := (60, [some (.ref 39), some (.int a), some (.int ((σ2 46 (Int32.toNatClampNeg (5 + a))) + v3))], [.int 11, .ref 46], (s2 σ3 46 (Int32.toNatClampNeg (5 + a)) 0))) (q' := (66, [some (.ref 39), some (.int a), some (.int ((σ2 46 (Int32.toNatClampNeg (5 + a))) + v3))], [.int 11, .ref 46, .int 11, .ref 46], (s2 σ3 46 (Int32.toNatClampNeg (5 + a)) 0))) rfl ?_
      refine PW.iald (n := 14) (ins_l hw_157 rfl) rfl (by decide) ?_
      refine PW.runs hw_157 rfl 3 (q := (67, [some (.ref 39), some (.int a), some (.int ((σ2 46 (Int32.toNatClampNeg (5 + a))) + v3))], [.int ((s2 σ3 46 (Int32.toNatClampNeg (5 + a)) 0) 46 11), .int 11, .ref 46], (s2 σ3 46 (Int32.toNatClampNeg (5 + a)) 0))) (q' := (75, [some (.ref 39), some (.int a), some (.int ((σ2 46 (Int32.toNatClampNeg (5 + a))) + v3))], [.int (((s2 σ3 46 (Int32.toNatClampNeg (5 + a)) 0) 46 11) + ((σ2 46 (Int32.toNatClampNeg (5 + a))) + v3)), .int 11, .ref 46], (s2 σ3 46 (Int32.toNatClampNeg (5 + a)) 0))) rfl ?_
      refine PW.iast (n := 14) (ins_l hw_157 rfl) rfl (by decide) ?_
      refine PW.runs hw_157 rfl 1 (q := (76, [some (.ref 39), some (.int a), some (.int ((σ2 46 (Int32.toNatClampNeg (5 + a))) + v3))], [], (s2 (s2 σ3 46 (Int32.toNatClampNeg (5 + a)) 0) 46 11 (((s2 σ3 46 (Int32.toNatClampNeg (5 + a)) 0) 46 11) + ((σ2 46 (Int32.toNatClampNeg (5 + a))) + v3))))) (q' := (77, [some (.ref 39), some (.int a), some (.int ((σ2 46 (Int32.toNatClampNeg (5 + a))) + v3))], [.int ((σ2 46 (Int32.toNatClampNeg (5 + a))) + v3)], (s2 (s2 σ3 46 (Int32.toNatClampNeg (5 + a)) 0) 46 11 (((s2 σ3 46 (Int32.toNatClampNeg (5 + a)) 0) 46 11) + ((σ2 46 (Int32.toNatClampNeg (5 + a))) + v3))))) rfl ?_
      exact PW.iret (ins_l hw_157 rfl) (Or.inl rfl) ⟨_, rfl, h⟩
  · replace h := (if_pos (c_neF hc1)).mp h
    refine PW.runs hw_157 rfl 1 (q := (8, [some (.ref 39), some (.int a), none], [], σ1)) (q' := (10, [some (.ref 39), some (.int a), none], [.int (-1000000001)], σ1)) rfl ?_
    exact PW.iret (ins_l hw_157 rfl) (Or.inl rfl) ⟨_, rfl, h⟩
theorem hw_158 : pins.getD 158 [] = pi_158 := rfl
/-! MapDutyModel.owe.(II)V -/
set_option maxRecDepth 20000 in
theorem w_158 {a : Int32} {b : Int32} {σ : St} {K : St → Prop} (h : ((0 ≤ (5 + a).toInt ∧ (5 + a).toInt < 14) ∧ (if 99999 ≤ ((σ 46 (Int32.toNatClampNeg (5 + a))) + b) then K (s2 σ 46 (Int32.toNatClampNeg (5 + a)) 99999) else K (s2 σ 46 (Int32.toNatClampNeg (5 + a)) ((σ 46 (Int32.toNatClampNeg (5 + a))) + b))))) : CV 158 [.ref 39, .int a, .int b] σ K := by
  show PW none 158 0 [some (.ref 39), some (.int a), some (.int b), none] [] σ _
  refine PW.runs hw_158 rfl 5 (q := (0, [some (.ref 39), some (.int a), some (.int b), none], [], σ)) (q' := (7, [some (.ref 39), some (.int a), some (.int b), none], [.int (5 + a), .ref 46], σ)) rfl ?_
  obtain ⟨hb1, h⟩ := h
  refine PW.iald (n := 14) (ins_l hw_158 rfl) rfl (idx_in hb1.1 hb1.2).1 ?_
  refine PW.runs hw_158 rfl 10 (q := (8, [some (.ref 39), some (.int a), some (.int b), none], [.int (σ 46 (Int32.toNatClampNeg (5 + a)))], σ)) (q' := (22, [some (.ref 39), some (.int a), some (.int b), some (.int ((σ 46 (Int32.toNatClampNeg (5 + a))) + b))], [.int 99999, .int ((σ 46 (Int32.toNatClampNeg (5 + a))) + b), .int (5 + a), .ref 46], σ)) rfl ?_
  refine PW.icm (t := 29) (ins_l hw_158 rfl) rfl (fun hc1 => ?_) (fun hc1 => ?_)
  · replace h := (if_pos (c_geT hc1)).mp h
    refine PW.runs hw_158 rfl 1 (q := (29, [some (.ref 39), some (.int a), some (.int b), some (.int ((σ 46 (Int32.toNatClampNeg (5 + a))) + b))], [.int (5 + a), .ref 46], σ)) (q' := (32, [some (.ref 39), some (.int a), some (.int b), some (.int ((σ 46 (Int32.toNatClampNeg (5 + a))) + b))], [.int 99999, .int (5 + a), .ref 46], σ)) rfl ?_
    refine PW.iast (n := 14) (ins_l hw_158 rfl) rfl (idx_in hb1.1 hb1.2).1 ?_
    exact PW.vret (ins_l hw_158 rfl) rfl ⟨rfl, h⟩
  · replace h := (if_neg (c_geF hc1)).mp h
    refine PW.runs hw_158 rfl 2 (q := (25, [some (.ref 39), some (.int a), some (.int b), some (.int ((σ 46 (Int32.toNatClampNeg (5 + a))) + b))], [.int (5 + a), .ref 46], σ)) (q' := (32, [some (.ref 39), some (.int a), some (.int b), some (.int ((σ 46 (Int32.toNatClampNeg (5 + a))) + b))], [.int ((σ 46 (Int32.toNatClampNeg (5 + a))) + b), .int (5 + a), .ref 46], σ)) rfl ?_
    refine PW.iast (n := 14) (ins_l hw_158 rfl) rfl (idx_in hb1.1 hb1.2).1 ?_
    exact PW.vret (ins_l hw_158 rfl) rfl ⟨rfl, h⟩
theorem hw_160 : pins.getD 160 [] = pi_160 := rfl
/-! MapDutyModel.inspect.(II)I -/
set_option maxRecDepth 20000 in
theorem w_160 {a : Int32} {b : Int32} {σ : St} {K : Int32 → St → Prop} (h : CI 116 [.ref 39, .int a] σ (fun v1 σ1 => (if v1 = 0 then K (-1000000001) σ1 else CI 115 [.ref 39, .int b] σ1 (fun v2 σ2 => (if v2 = 0 then K (-1000000001) σ2 else CV 153 [.ref 39] σ2 (fun σ3 => CI 159 [.ref 39, .int a, .int b] σ3 (fun v4 σ4 => CV 158 [.ref 39, .int b, .int v4] σ4 (fun σ5 => K v4 σ5)))))))) : CI 160 [.ref 39, .int a, .int b] σ K := by
  show PW none 160 0 [some (.ref 39), some (.int a), some (.int b), none] [] σ _
  refine PW.runs hw_160 rfl 2 (q := (0, [some (.ref 39), some (.int a), some (.int b), none], [], σ)) (q' := (2, [some (.ref 39), some (.int a), some (.int b), none], [.int a, .ref 39], σ)) rfl ?_
  refine PW.callV (b := 39) (vs := [.int a]) (rest := []) (ins_l hw_160 rfl) rfl rfl rfl (Nat.le_of_ble_eq_true rfl) (Nat.le_of_ble_eq_true rfl) (PW.mono h ?_)
  rintro _ σ1 ⟨v1, rfl, h⟩
  show PW none 160 5 [some (.ref 39), some (.int a), some (.int b), none] [.int v1] σ1 _
  refine PW.ifc (t := 16) (ins_l hw_160 rfl) rfl (fun hc1 => ?_) (fun hc1 => ?_)
  · replace h := (if_pos (c_eqT hc1)).mp h
    refine PW.runs hw_160 rfl 1 (q := (16, [some (.ref 39), some (.int a), some (.int b), none], [], σ1)) (q' := (18, [some (.ref 39), some (.int a), some (.int b), none], [.int (-1000000001)], σ1)) rfl ?_
    exact PW.iret (ins_l hw_160 rfl) (Or.inl rfl) ⟨_, rfl, h⟩
  · replace h := (if_neg (c_eqF hc1)).mp h
    refine PW.runs hw_160 rfl 2 (q := (8, [some (.ref 39), some (.int a), some (.int b), none], [], σ1)) (q' := (10, [some (.ref 39), some (.int a), some (.int b), none], [.int b, .ref 39], σ1)) rfl ?_
    refine PW.callV (b := 39) (vs := [.int b]) (rest := []) (ins_l hw_160 rfl) rfl rfl rfl (Nat.le_of_ble_eq_true rfl) (Nat.le_of_ble_eq_true rfl) (PW.mono h ?_)
    rintro _ σ2 ⟨v2, rfl, h⟩
    show PW none 160 13 [some (.ref 39), some (.int a), some (.int b), none] [.int v2] σ2 _
    refine PW.ifc (t := 19) (ins_l hw_160 rfl) rfl (fun hc2 => ?_) (fun hc2 => ?_)
    · replace h := (if_neg (c_neT hc2)).mp h
      refine PW.runs hw_160 rfl 1 (q := (19, [some (.ref 39), some (.int a), some (.int b), none], [], σ2)) (q' := (20, [some (.ref 39), some (.int a), some (.int b), none], [.ref 39], σ2)) rfl ?_
      refine PW.callV (b := 39) (vs := []) (rest := []) (ins_l hw_160 rfl) rfl rfl rfl (Nat.le_of_ble_eq_true rfl) (Nat.le_of_ble_eq_true rfl) (PW.mono h ?_)
      rintro _ σ3 ⟨rfl, h⟩
      show PW none 160 23 [some (.ref 39), some (.int a), some (.int b), none] [] σ3 _
      refine PW.runs hw_160 rfl 3 (q := (23, [some (.ref 39), some (.int a), some (.int b), none], [], σ3)) (q' := (26, [some (.ref 39), some (.int a), some (.int b), none], [.int b, .int a, .ref 39], σ3)) rfl ?_
      refine PW.callV (b := 39) (vs := [.int a, .int b]) (rest := []) (ins_l hw_160 rfl) rfl rfl rfl (Nat.le_of_ble_eq_true rfl) (Nat.le_of_ble_eq_true rfl) (PW.mono h ?_)
      rintro _ σ4 ⟨v4, rfl, h⟩
      show PW none 160 29 [some (.ref 39), some (.int a), some (.int b), none] [.int v4] σ4 _
      refine PW.runs hw_160 rfl 4 (q := (29, [some (.ref 39), some (.int a), some (.int b), none], [.int v4], σ4)) (q' := (33, [some (.ref 39), some (.int a), some (.int b), some (.int v4)], [.int v4, .int b, .ref 39], σ4)) rfl ?_
      refine PW.callV (b := 39) (vs := [.int b, .int v4]) (rest := []) (ins_l hw_160 rfl) rfl rfl rfl (Nat.le_of_ble_eq_true rfl) (Nat.le_of_ble_eq_true rfl) (PW.mono h ?_)
      rintro _ σ5 ⟨rfl, h⟩
      show PW none 160 36 [some (.ref 39), some (.int a), some (.int b), some (.int v4)] [] σ5 _
      refine PW.runs hw_160 rfl 1 (q := (36, [some (.ref 39), some (.int a), some (.int b), some (.int v4)], [], σ5)) (q' := (37, [some (.ref 39), some (.int a), some (.int b), some (.int v4)], [.int v4], σ5)) rfl ?_
      exact PW.iret (ins_l hw_160 rfl) (Or.inl rfl) ⟨_, rfl, h⟩
    · replace h := (if_pos (c_neF hc2)).mp h
      refine PW.runs hw_160 rfl 1 (q := (16, [some (.ref 39), some (.int a), some (.int b), none], [], σ2)) (q' := (18, [some (.ref 39), some (.int a), some (.int b), none], [.int (-1000000001)], σ2)) rfl ?_
      exact PW.iret (ins_l hw_160 rfl) (Or.inl rfl) ⟨_, rfl, h⟩
theorem hw_161 : pins.getD 161 [] = pi_161 := rfl
/-! MapDutyModel.walk.(III)I -/
set_option maxRecDepth 20000 in
theorem w_161 {a : Int32} {b : Int32} {c : Int32} {σ : St} {K : Int32 → St → Prop} (h : CI 115 [.ref 39, .int a] σ (fun v1 σ1 => (if v1 = 0 then K (-1000000001) σ1 else CI 113 [.ref 39, .int b, .int c] σ1 (fun v2 σ2 => (if v2 = 0 then K (-1000000001) σ2 else ((0 ≤ a.toInt ∧ a.toInt < 14) ∧ CI 142 [.ref 39, .int b, .int c, .int (σ2 46 (Int32.toNatClampNeg a))] σ2 (fun v3 σ3 => (if 0 ≤ v3 then CV 153 [.ref 39] σ3 (fun σ4 => CI 143 [.ref 39, .int v3] σ4 (fun v5 σ5 => (if v5 < 0 then K 1 (s2 σ5 46 12 ((σ5 46 12) + 0)) else (if 999999 ≤ (σ5 46 12) then K 0 (s2 σ5 46 12 ((σ5 46 12) + 0)) else K 0 (s2 σ5 46 12 ((σ5 46 12) + 1)))))) else K (-1000000003) σ3)))))))) : CI 161 [.ref 39, .int a, .int b, .int c] σ K := by
  show PW none 161 0 [some (.ref 39), some (.int a), some (.int b), some (.int c), none, none] [] σ _
  refine PW.runs hw_161 rfl 2 (q := (0, [some (.ref 39), some (.int a), some (.int b), some (.int c), none, none], [], σ)) (q' := (2, [some (.ref 39), some (.int a), some (.int b), some (.int c), none, none], [.int a, .ref 39], σ)) rfl ?_
  refine PW.callV (b := 39) (vs := [.int a]) (rest := []) (ins_l hw_161 rfl) rfl rfl rfl (Nat.le_of_ble_eq_true rfl) (Nat.le_of_ble_eq_true rfl) (PW.mono h ?_)
  rintro _ σ1 ⟨v1, rfl, h⟩
  show PW none 161 5 [some (.ref 39), some (.int a), some (.int b), some (.int c), none, none] [.int v1] σ1 _
  refine PW.ifc (t := 17) (ins_l hw_161 rfl) rfl (fun hc1 => ?_) (fun hc1 => ?_)
  · replace h := (if_pos (c_eqT hc1)).mp h
    refine PW.runs hw_161 rfl 1 (q := (17, [some (.ref 39), some (.int a), some (.int b), some (.int c), none, none], [], σ1)) (q' := (19, [some (.ref 39), some (.int a), some (.int b), some (.int c), none, none], [.int (-1000000001)], σ1)) rfl ?_
    exact PW.iret (ins_l hw_161 rfl) (Or.inl rfl) ⟨_, rfl, h⟩
  · replace h := (if_neg (c_eqF hc1)).mp h
    refine PW.runs hw_161 rfl 3 (q := (8, [some (.ref 39), some (.int a), some (.int b), some (.int c), none, none], [], σ1)) (q' := (11, [some (.ref 39), some (.int a), some (.int b), some (.int c), none, none], [.int c, .int b, .ref 39], σ1)) rfl ?_
    refine PW.callV (b := 39) (vs := [.int b, .int c]) (rest := []) (ins_l hw_161 rfl) rfl rfl rfl (Nat.le_of_ble_eq_true rfl) (Nat.le_of_ble_eq_true rfl) (PW.mono h ?_)
    rintro _ σ2 ⟨v2, rfl, h⟩
    show PW none 161 14 [some (.ref 39), some (.int a), some (.int b), some (.int c), none, none] [.int v2] σ2 _
    refine PW.ifc (t := 20) (ins_l hw_161 rfl) rfl (fun hc2 => ?_) (fun hc2 => ?_)
    · replace h := (if_neg (c_neT hc2)).mp h
      refine PW.runs hw_161 rfl 6 (q := (20, [some (.ref 39), some (.int a), some (.int b), some (.int c), none, none], [], σ2)) (q' := (28, [some (.ref 39), some (.int a), some (.int b), some (.int c), none, none], [.int a, .ref 46, .int c, .int b, .ref 39], σ2)) rfl ?_
      obtain ⟨hb1, h⟩ := h
      refine PW.iald (n := 14) (ins_l hw_161 rfl) rfl (idx_in hb1.1 hb1.2).1 ?_
      refine PW.callV (b := 39) (vs := [.int b, .int c, .int (σ2 46 (Int32.toNatClampNeg a))]) (rest := []) (ins_l hw_161 rfl) rfl rfl rfl (Nat.le_of_ble_eq_true rfl) (Nat.le_of_ble_eq_true rfl) (PW.mono h ?_)
      rintro _ σ3 ⟨v3, rfl, h⟩
      show PW none 161 32 [some (.ref 39), some (.int a), some (.int b), some (.int c), none, none] [.int v3] σ3 _
      refine PW.runs hw_161 rfl 2 (q := (32, [some (.ref 39), some (.int a), some (.int b), some (.int c), none, none], [.int v3], σ3)) (q' := (36, [some (.ref 39), some (.int a), some (.int b), some (.int c), some (.int v3), none], [.int v3], σ3)) rfl ?_
      refine PW.ifc (t := 43) (ins_l hw_161 rfl) rfl (fun hc3 => ?_) (fun hc3 => ?_)
      · replace h := (if_pos (c_geT hc3)).mp h
        refine PW.runs hw_161 rfl 1 (q := (43, [some (.ref 39), some (.int a), some (.int b), some (.int c), some (.int v3), none], [], σ3)) (q' := (44, [some (.ref 39), some (.int a), some (.int b), some (.int c), some (.int v3), none], [.ref 39], σ3)) rfl ?_
        refine PW.callV (b := 39) (vs := []) (rest := []) (ins_l hw_161 rfl) rfl rfl rfl (Nat.le_of_ble_eq_true rfl) (Nat.le_of_ble_eq_true rfl) (PW.mono h ?_)
        rintro _ σ4 ⟨rfl, h⟩
        show PW none 161 47 [some (.ref 39), some (.int a), some (.int b), some (.int c), some (.int v3), none] [] σ4 _
        refine PW.runs hw_161 rfl 2 (q := (47, [some (.ref 39), some (.int a), some (.int b), some (.int c), some (.int v3), none], [], σ4)) (q' := (50, [some (.ref 39), some (.int a), some (.int b), some (.int c), some (.int v3), none], [.int v3, .ref 39], σ4)) rfl ?_
        refine PW.callV (b := 39) (vs := [.int v3]) (rest := []) (ins_l hw_161 rfl) rfl rfl rfl (Nat.le_of_ble_eq_true rfl) (Nat.le_of_ble_eq_true rfl) (PW.mono h ?_)
        rintro _ σ5 ⟨v5, rfl, h⟩
        show PW none 161 53 [some (.ref 39), some (.int a), some (.int b), some (.int c), some (.int v3), none] [.int v5] σ5 _
        refine PW.ifc (t := 60) (ins_l hw_161 rfl) rfl (fun hc4 => ?_) (fun hc4 => ?_)
        · replace h := (if_pos (c_ltT hc4)).mp h
          refine PW.runs hw_161 rfl 6 (q := (60, [some (.ref 39), some (.int a), some (.int b), some (.int c), some (.int v3), none], [], σ5)) (q' := (70, [some (.ref 39), some (.int a), some (.int b), some (.int c), some (.int v3), some (.int 0)], [.int 12, .ref 46, .int 12, .ref 46], σ5)) rfl ?_
          refine PW.iald (n := 14) (ins_l hw_161 rfl) rfl (by decide) ?_
          refine PW.runs hw_161 rfl 1 (q := (71, [some (.ref 39), some (.int a), some (.int b), some (.int c), some (.int v3), some (.int 0)], [.int (σ5 46 12), .int 12, .ref 46], σ5)) (q' := (73, [some (.ref 39), some (.int a), some (.int b), some (.int c), some (.int v3), some (.int 0)], [.int 0, .int (σ5 46 12), .int 12, .ref 46], σ5)) rfl ?_
          refine PW.ifcT (t := 93) (ins_l hw_161 rfl) rfl (by decide) ?_
          refine PW.runs hw_161 rfl 2 (q := (93, [some (.ref 39), some (.int a), some (.int b), some (.int c), some (.int v3), some (.int 0)], [.int (σ5 46 12), .int 12, .ref 46], σ5)) (q' := (95, [some (.ref 39), some (.int a), some (.int b), some (.int c), some (.int v3), some (.int 0)], [.int ((σ5 46 12) + 0), .int 12, .ref 46], σ5)) rfl ?_
          refine PW.iast (n := 14) (ins_l hw_161 rfl) rfl (by decide) ?_
          refine PW.runs hw_161 rfl 1 (q := (96, [some (.ref 39), some (.int a), some (.int b), some (.int c), some (.int v3), some (.int 0)], [], (s2 σ5 46 12 ((σ5 46 12) + 0)))) (q' := (98, [some (.ref 39), some (.int a), some (.int b), some (.int c), some (.int v3), some (.int 0)], [.int 0], (s2 σ5 46 12 ((σ5 46 12) + 0)))) rfl ?_
          refine PW.ifcT (t := 105) (ins_l hw_161 rfl) rfl (by decide) ?_
          refine PW.runs hw_161 rfl 1 (q := (105, [some (.ref 39), some (.int a), some (.int b), some (.int c), some (.int v3), some (.int 0)], [], (s2 σ5 46 12 ((σ5 46 12) + 0)))) (q' := (106, [some (.ref 39), some (.int a), some (.int b), some (.int c), some (.int v3), some (.int 0)], [.int 1], (s2 σ5 46 12 ((σ5 46 12) + 0)))) rfl ?_
          exact PW.iret (ins_l hw_161 rfl) (Or.inl rfl) ⟨_, rfl, h⟩
        · replace h := (if_neg (c_ltF hc4)).mp h
          refine PW.runs hw_161 rfl 7 (q := (56, [some (.ref 39), some (.int a), some (.int b), some (.int c), some (.int v3), none], [], σ5)) (q' := (70, [some (.ref 39), some (.int a), some (.int b), some (.int c), some (.int v3), some (.int 1)], [.int 12, .ref 46, .int 12, .ref 46], σ5)) rfl ?_
          refine PW.iald (n := 14) (ins_l hw_161 rfl) rfl (by decide) ?_
          refine PW.runs hw_161 rfl 1 (q := (71, [some (.ref 39), some (.int a), some (.int b), some (.int c), some (.int v3), some (.int 1)], [.int (σ5 46 12), .int 12, .ref 46], σ5)) (q' := (73, [some (.ref 39), some (.int a), some (.int b), some (.int c), some (.int v3), some (.int 1)], [.int 1, .int (σ5 46 12), .int 12, .ref 46], σ5)) rfl ?_
          refine PW.ifcF (t := 93) (ins_l hw_161 rfl) rfl (by decide) ?_
          refine PW.runs hw_161 rfl 3 (q := (76, [some (.ref 39), some (.int a), some (.int b), some (.int c), some (.int v3), some (.int 1)], [.int (σ5 46 12), .int 12, .ref 46], σ5)) (q' := (82, [some (.ref 39), some (.int a), some (.int b), some (.int c), some (.int v3), some (.int 1)], [.int 12, .ref 46, .int (σ5 46 12), .int 12, .ref 46], σ5)) rfl ?_
          refine PW.iald (n := 14) (ins_l hw_161 rfl) rfl (by decide) ?_
          refine PW.runs hw_161 rfl 1 (q := (83, [some (.ref 39), some (.int a), some (.int b), some (.int c), some (.int v3), some (.int 1)], [.int (σ5 46 12), .int (σ5 46 12), .int 12, .ref 46], σ5)) (q' := (86, [some (.ref 39), some (.int a), some (.int b), some (.int c), some (.int v3), some (.int 1)], [.int 999999, .int (σ5 46 12), .int (σ5 46 12), .int 12, .ref 46], σ5)) rfl ?_
          refine PW.icm (t := 93) (ins_l hw_161 rfl) rfl (fun hc5 => ?_) (fun hc5 => ?_)
          · replace h := (if_pos (c_geT hc5)).mp h
            refine PW.runs hw_161 rfl 2 (q := (93, [some (.ref 39), some (.int a), some (.int b), some (.int c), some (.int v3), some (.int 1)], [.int (σ5 46 12), .int 12, .ref 46], σ5)) (q' := (95, [some (.ref 39), some (.int a), some (.int b), some (.int c), some (.int v3), some (.int 1)], [.int ((σ5 46 12) + 0), .int 12, .ref 46], σ5)) rfl ?_
            refine PW.iast (n := 14) (ins_l hw_161 rfl) rfl (by decide) ?_
            refine PW.runs hw_161 rfl 1 (q := (96, [some (.ref 39), some (.int a), some (.int b), some (.int c), some (.int v3), some (.int 1)], [], (s2 σ5 46 12 ((σ5 46 12) + 0)))) (q' := (98, [some (.ref 39), some (.int a), some (.int b), some (.int c), some (.int v3), some (.int 1)], [.int 1], (s2 σ5 46 12 ((σ5 46 12) + 0)))) rfl ?_
            refine PW.ifcF (t := 105) (ins_l hw_161 rfl) rfl (by decide) ?_
            refine PW.runs hw_161 rfl 2 (q := (101, [some (.ref 39), some (.int a), some (.int b), some (.int c), some (.int v3), some (.int 1)], [], (s2 σ5 46 12 ((σ5 46 12) + 0)))) (q' := (106, [some (.ref 39), some (.int a), some (.int b), some (.int c), some (.int v3), some (.int 1)], [.int 0], (s2 σ5 46 12 ((σ5 46 12) + 0)))) rfl ?_
            exact PW.iret (ins_l hw_161 rfl) (Or.inl rfl) ⟨_, rfl, h⟩
          · replace h := (if_neg (c_geF hc5)).mp h
            refine PW.runs hw_161 rfl 3 (q := (89, [some (.ref 39), some (.int a), some (.int b), some (.int c), some (.int v3), some (.int 1)], [.int (σ5 46 12), .int 12, .ref 46], σ5)) (q' := (95, [some (.ref 39), some (.int a), some (.int b), some (.int c), some (.int v3), some (.int 1)], [.int ((σ5 46 12) + 1), .int 12, .ref 46], σ5)) rfl ?_
            refine PW.iast (n := 14) (ins_l hw_161 rfl) rfl (by decide) ?_
            refine PW.runs hw_161 rfl 1 (q := (96, [some (.ref 39), some (.int a), some (.int b), some (.int c), some (.int v3), some (.int 1)], [], (s2 σ5 46 12 ((σ5 46 12) + 1)))) (q' := (98, [some (.ref 39), some (.int a), some (.int b), some (.int c), some (.int v3), some (.int 1)], [.int 1], (s2 σ5 46 12 ((σ5 46 12) + 1)))) rfl ?_
            refine PW.ifcF (t := 105) (ins_l hw_161 rfl) rfl (by decide) ?_
            refine PW.runs hw_161 rfl 2 (q := (101, [some (.ref 39), some (.int a), some (.int b), some (.int c), some (.int v3), some (.int 1)], [], (s2 σ5 46 12 ((σ5 46 12) + 1)))) (q' := (106, [some (.ref 39), some (.int a), some (.int b), some (.int c), some (.int v3), some (.int 1)], [.int 0], (s2 σ5 46 12 ((σ5 46 12) + 1)))) rfl ?_
            exact PW.iret (ins_l hw_161 rfl) (Or.inl rfl) ⟨_, rfl, h⟩
      · replace h := (if_neg (c_geF hc3)).mp h
        refine PW.runs hw_161 rfl 1 (q := (39, [some (.ref 39), some (.int a), some (.int b), some (.int c), some (.int v3), none], [], σ3)) (q' := (42, [some (.ref 39), some (.int a), some (.int b), some (.int c), some (.int v3), none], [.int (-1000000003)], σ3)) rfl ?_
        exact PW.iret (ins_l hw_161 rfl) (Or.inl rfl) ⟨_, rfl, h⟩
    · replace h := (if_pos (c_neF hc2)).mp h
      refine PW.runs hw_161 rfl 1 (q := (17, [some (.ref 39), some (.int a), some (.int b), some (.int c), none, none], [], σ2)) (q' := (19, [some (.ref 39), some (.int a), some (.int b), some (.int c), none, none], [.int (-1000000001)], σ2)) rfl ?_
      exact PW.iret (ins_l hw_161 rfl) (Or.inl rfl) ⟨_, rfl, h⟩
theorem hw_162 : pins.getD 162 [] = pi_162 := rfl
/-! MapDutyModel.allOwe.()I -/
set_option maxRecDepth 20000 in
theorem w_162  {σ : St} {K : Int32 → St → Prop} (h : PI 162 4 [some (.ref 39), some (.int 0), some (.int 0)] [] σ K) : CI 162 [.ref 39] σ K := by
  show PW none 162 0 [some (.ref 39), none, none] [] σ _
  refine PW.runs hw_162 rfl 4 (q := (0, [some (.ref 39), none, none], [], σ)) (q' := (4, [some (.ref 39), some (.int 0), some (.int 0)], [], σ)) rfl ?_
  exact h
set_option maxRecDepth 20000 in
theorem w_162_4 {x1 : Int32} {x2 : Int32} {σ : St} {K : Int32 → St → Prop} (h : (if (σ 39 6) ≤ x2 then K x1 σ else ((0 ≤ (5 + x2).toInt ∧ (5 + x2).toInt < 14) ∧ PI 162 4 [some (.ref 39), some (.int (x1 + (σ 46 (Int32.toNatClampNeg (5 + x2))))), some (.int (x2 + 1))] [] σ K))) : PI 162 4 [some (.ref 39), some (.int x1), some (.int x2)] [] σ K := by
  show PW none 162 4 [some (.ref 39), some (.int x1), some (.int x2)] [] σ _
  refine PW.runs hw_162 rfl 3 (q := (4, [some (.ref 39), some (.int x1), some (.int x2)], [], σ)) (q' := (9, [some (.ref 39), some (.int x1), some (.int x2)], [.int (σ 39 6), .int x2], σ)) rfl ?_
  refine PW.icm (t := 29) (ins_l hw_162 rfl) rfl (fun hc1 => ?_) (fun hc1 => ?_)
  · replace h := (if_pos (c_geT hc1)).mp h
    refine PW.runs hw_162 rfl 1 (q := (29, [some (.ref 39), some (.int x1), some (.int x2)], [], σ)) (q' := (30, [some (.ref 39), some (.int x1), some (.int x2)], [.int x1], σ)) rfl ?_
    exact PW.iret (ins_l hw_162 rfl) (Or.inl rfl) ⟨_, rfl, h⟩
  · replace h := (if_neg (c_geF hc1)).mp h
    refine PW.runs hw_162 rfl 6 (q := (12, [some (.ref 39), some (.int x1), some (.int x2)], [], σ)) (q' := (20, [some (.ref 39), some (.int x1), some (.int x2)], [.int (5 + x2), .ref 46, .int x1], σ)) rfl ?_
    obtain ⟨hb1, h⟩ := h
    refine PW.iald (n := 14) (ins_l hw_162 rfl) rfl (idx_in hb1.1 hb1.2).1 ?_
    refine PW.runs hw_162 rfl 4 (q := (21, [some (.ref 39), some (.int x1), some (.int x2)], [.int (σ 46 (Int32.toNatClampNeg (5 + x2))), .int x1], σ)) (q' := (4, [some (.ref 39), some (.int (x1 + (σ 46 (Int32.toNatClampNeg (5 + x2))))), some (.int (x2 + 1))], [], σ)) rfl ?_
    exact h
theorem hw_163 : pins.getD 163 [] = pi_163 := rfl
/-! MapDutyModel.pass.()V -/
set_option maxRecDepth 20000 in
theorem w_163  {σ : St} {K : St → Prop} (h : PV 163 2 [some (.ref 39), some (.int 0)] [] σ K) : CV 163 [.ref 39] σ K := by
  show PW none 163 0 [some (.ref 39), none] [] σ _
  refine PW.runs hw_163 rfl 2 (q := (0, [some (.ref 39), none], [], σ)) (q' := (2, [some (.ref 39), some (.int 0)], [], σ)) rfl ?_
  exact h
set_option maxRecDepth 20000 in
theorem w_163_2 {x1 : Int32} {σ : St} {K : St → Prop} (h : (if (σ 39 6) ≤ x1 then K (s2 σ 46 13 ((σ 46 13) + 1)) else CI 136 [.ref 39, .int x1] σ (fun v1 σ1 => CV 158 [.ref 39, .int x1, .int v1] σ1 (fun σ2 => PV 163 2 [some (.ref 39), some (.int (x1 + 1))] [] σ2 K)))) : PV 163 2 [some (.ref 39), some (.int x1)] [] σ K := by
  show PW none 163 2 [some (.ref 39), some (.int x1)] [] σ _
  refine PW.runs hw_163 rfl 3 (q := (2, [some (.ref 39), some (.int x1)], [], σ)) (q' := (7, [some (.ref 39), some (.int x1)], [.int (σ 39 6), .int x1], σ)) rfl ?_
  refine PW.icm (t := 26) (ins_l hw_163 rfl) rfl (fun hc1 => ?_) (fun hc1 => ?_)
  · replace h := (if_pos (c_geT hc1)).mp h
    refine PW.runs hw_163 rfl 4 (q := (26, [some (.ref 39), some (.int x1)], [], σ)) (q' := (33, [some (.ref 39), some (.int x1)], [.int 13, .ref 46, .int 13, .ref 46], σ)) rfl ?_
    refine PW.iald (n := 14) (ins_l hw_163 rfl) rfl (by decide) ?_
    refine PW.runs hw_163 rfl 2 (q := (34, [some (.ref 39), some (.int x1)], [.int (σ 46 13), .int 13, .ref 46], σ)) (q' := (36, [some (.ref 39), some (.int x1)], [.int ((σ 46 13) + 1), .int 13, .ref 46], σ)) rfl ?_
    refine PW.iast (n := 14) (ins_l hw_163 rfl) rfl (by decide) ?_
    exact PW.vret (ins_l hw_163 rfl) rfl ⟨rfl, h⟩
  · replace h := (if_neg (c_geF hc1)).mp h
    refine PW.runs hw_163 rfl 4 (q := (10, [some (.ref 39), some (.int x1)], [], σ)) (q' := (14, [some (.ref 39), some (.int x1)], [.int x1, .ref 39, .int x1, .ref 39], σ)) rfl ?_
    refine PW.callV (b := 39) (vs := [.int x1]) (rest := [.int x1, .ref 39]) (ins_l hw_163 rfl) rfl rfl rfl (Nat.le_of_ble_eq_true rfl) (Nat.le_of_ble_eq_true rfl) (PW.mono h ?_)
    rintro _ σ1 ⟨v1, rfl, h⟩
    show PW none 163 17 [some (.ref 39), some (.int x1)] [.int v1, .int x1, .ref 39] σ1 _
    refine PW.callV (b := 39) (vs := [.int x1, .int v1]) (rest := []) (ins_l hw_163 rfl) rfl rfl rfl (Nat.le_of_ble_eq_true rfl) (Nat.le_of_ble_eq_true rfl) (PW.mono h ?_)
    rintro _ σ2 ⟨rfl, h⟩
    show PW none 163 20 [some (.ref 39), some (.int x1)] [] σ2 _
    refine PW.runs hw_163 rfl 2 (q := (20, [some (.ref 39), some (.int x1)], [], σ2)) (q' := (2, [some (.ref 39), some (.int (x1 + 1))], [], σ2)) rfl ?_
    exact h
theorem hw_164 : pins.getD 164 [] = pi_164 := rfl
/-! MapDutyModel.daysRefused.(I)I -/
set_option maxRecDepth 20000 in
theorem w_164 {a : Int32} {σ : St} {K : Int32 → St → Prop} (h : CI 109 [.long (Int32.toInt64 a), .long 1, .long 60] σ (fun v1 σ1 => (if v1 = 0 then K (-1000000002) σ1 else (if (σ1 39 0) = 0 then K (-1000000003) σ1 else (if (σ1 46 13) ≤ 9000 then K 0 σ1 else K (-1000000004) σ1))))) : CI 164 [.ref 39, .int a] σ K := by
  show PW none 164 0 [some (.ref 39), some (.int a)] [] σ _
  refine PW.runs hw_164 rfl 4 (q := (0, [some (.ref 39), some (.int a)], [], σ)) (q' := (6, [some (.ref 39), some (.int a)], [.long 60, .long 1, .long (Int32.toInt64 a)], σ)) rfl ?_
  refine PW.callS (vs := [.long (Int32.toInt64 a), .long 1, .long 60]) (rest := []) (ins_l hw_164 rfl) rfl (Or.inl rfl) rfl (Nat.le_of_ble_eq_true rfl) (Nat.le_of_ble_eq_true rfl) (PW.mono h ?_)
  rintro _ σ1 ⟨v1, rfl, h⟩
  show PW none 164 9 [some (.ref 39), some (.int a)] [.int v1] σ1 _
  refine PW.ifc (t := 15) (ins_l hw_164 rfl) rfl (fun hc1 => ?_) (fun hc1 => ?_)
  · replace h := (if_neg (c_neT hc1)).mp h
    refine PW.runs hw_164 rfl 2 (q := (15, [some (.ref 39), some (.int a)], [], σ1)) (q' := (19, [some (.ref 39), some (.int a)], [.int (σ1 39 0)], σ1)) rfl ?_
    refine PW.ifc (t := 28) (ins_l hw_164 rfl) rfl (fun hc2 => ?_) (fun hc2 => ?_)
    · replace h := (if_neg (c_neT hc2)).mp h
      refine PW.runs hw_164 rfl 3 (q := (28, [some (.ref 39), some (.int a)], [], σ1)) (q' := (34, [some (.ref 39), some (.int a)], [.int 13, .ref 46], σ1)) rfl ?_
      refine PW.iald (n := 14) (ins_l hw_164 rfl) rfl (by decide) ?_
      refine PW.runs hw_164 rfl 1 (q := (35, [some (.ref 39), some (.int a)], [.int (σ1 46 13)], σ1)) (q' := (38, [some (.ref 39), some (.int a)], [.int 9000, .int (σ1 46 13)], σ1)) rfl ?_
      refine PW.icm (t := 46) (ins_l hw_164 rfl) rfl (fun hc3 => ?_) (fun hc3 => ?_)
      · replace h := (if_pos (c_leT hc3)).mp h
        refine PW.runs hw_164 rfl 1 (q := (46, [some (.ref 39), some (.int a)], [], σ1)) (q' := (47, [some (.ref 39), some (.int a)], [.int 0], σ1)) rfl ?_
        exact PW.iret (ins_l hw_164 rfl) (Or.inl rfl) ⟨_, rfl, h⟩
      · replace h := (if_neg (c_leF hc3)).mp h
        refine PW.runs hw_164 rfl 2 (q := (41, [some (.ref 39), some (.int a)], [], σ1)) (q' := (47, [some (.ref 39), some (.int a)], [.int (-1000000004)], σ1)) rfl ?_
        exact PW.iret (ins_l hw_164 rfl) (Or.inl rfl) ⟨_, rfl, h⟩
    · replace h := (if_pos (c_neF hc2)).mp h
      refine PW.runs hw_164 rfl 2 (q := (22, [some (.ref 39), some (.int a)], [], σ1)) (q' := (47, [some (.ref 39), some (.int a)], [.int (-1000000003)], σ1)) rfl ?_
      exact PW.iret (ins_l hw_164 rfl) (Or.inl rfl) ⟨_, rfl, h⟩
  · replace h := (if_pos (c_neF hc1)).mp h
    refine PW.runs hw_164 rfl 1 (q := (12, [some (.ref 39), some (.int a)], [], σ1)) (q' := (14, [some (.ref 39), some (.int a)], [.int (-1000000002)], σ1)) rfl ?_
    exact PW.iret (ins_l hw_164 rfl) (Or.inl rfl) ⟨_, rfl, h⟩
theorem hw_165 : pins.getD 165 [] = pi_165 := rfl
/-! MapDutyModel.day.(I)I -/
set_option maxRecDepth 20000 in
theorem w_165 {a : Int32} {σ : St} {K : Int32 → St → Prop} (h : CI 164 [.ref 39, .int a] σ (fun v1 σ1 => (if v1 = 0 then CV 153 [.ref 39] σ1 (fun σ2 => PI 165 18 [some (.ref 39), some (.int a), some (.int v1), some (.int 0)] [] σ2 K) else K v1 σ1))) : CI 165 [.ref 39, .int a] σ K := by
  show PW none 165 0 [some (.ref 39), some (.int a), none, none] [] σ _
  refine PW.runs hw_165 rfl 2 (q := (0, [some (.ref 39), some (.int a), none, none], [], σ)) (q' := (2, [some (.ref 39), some (.int a), none, none], [.int a, .ref 39], σ)) rfl ?_
  refine PW.callV (b := 39) (vs := [.int a]) (rest := []) (ins_l hw_165 rfl) rfl rfl rfl (Nat.le_of_ble_eq_true rfl) (Nat.le_of_ble_eq_true rfl) (PW.mono h ?_)
  rintro _ σ1 ⟨v1, rfl, h⟩
  show PW none 165 5 [some (.ref 39), some (.int a), none, none] [.int v1] σ1 _
  refine PW.runs hw_165 rfl 2 (q := (5, [some (.ref 39), some (.int a), none, none], [.int v1], σ1)) (q' := (7, [some (.ref 39), some (.int a), some (.int v1), none], [.int v1], σ1)) rfl ?_
  refine PW.ifc (t := 12) (ins_l hw_165 rfl) rfl (fun hc1 => ?_) (fun hc1 => ?_)
  · replace h := (if_pos (c_eqT hc1)).mp h
    refine PW.runs hw_165 rfl 1 (q := (12, [some (.ref 39), some (.int a), some (.int v1), none], [], σ1)) (q' := (13, [some (.ref 39), some (.int a), some (.int v1), none], [.ref 39], σ1)) rfl ?_
    refine PW.callV (b := 39) (vs := []) (rest := []) (ins_l hw_165 rfl) rfl rfl rfl (Nat.le_of_ble_eq_true rfl) (Nat.le_of_ble_eq_true rfl) (PW.mono h ?_)
    rintro _ σ2 ⟨rfl, h⟩
    show PW none 165 16 [some (.ref 39), some (.int a), some (.int v1), none] [] σ2 _
    refine PW.runs hw_165 rfl 2 (q := (16, [some (.ref 39), some (.int a), some (.int v1), none], [], σ2)) (q' := (18, [some (.ref 39), some (.int a), some (.int v1), some (.int 0)], [], σ2)) rfl ?_
    exact h
  · replace h := (if_neg (c_eqF hc1)).mp h
    refine PW.runs hw_165 rfl 1 (q := (10, [some (.ref 39), some (.int a), some (.int v1), none], [], σ1)) (q' := (11, [some (.ref 39), some (.int a), some (.int v1), none], [.int v1], σ1)) rfl ?_
    exact PW.iret (ins_l hw_165 rfl) (Or.inl rfl) ⟨_, rfl, h⟩
set_option maxRecDepth 20000 in
theorem w_165_18 {a : Int32} {x2 : Int32} {x3 : Int32} {σ : St} {K : Int32 → St → Prop} (h : (if a ≤ x3 then CI 162 [.ref 39] σ (fun v1 σ1 => K v1 σ1) else CV 163 [.ref 39] σ (fun σ2 => PI 165 18 [some (.ref 39), some (.int a), some (.int x2), some (.int (x3 + 1))] [] σ2 K))) : PI 165 18 [some (.ref 39), some (.int a), some (.int x2), some (.int x3)] [] σ K := by
  show PW none 165 18 [some (.ref 39), some (.int a), some (.int x2), some (.int x3)] [] σ _
  refine PW.runs hw_165 rfl 2 (q := (18, [some (.ref 39), some (.int a), some (.int x2), some (.int x3)], [], σ)) (q' := (20, [some (.ref 39), some (.int a), some (.int x2), some (.int x3)], [.int a, .int x3], σ)) rfl ?_
  refine PW.icm (t := 33) (ins_l hw_165 rfl) rfl (fun hc1 => ?_) (fun hc1 => ?_)
  · replace h := (if_pos (c_geT hc1)).mp h
    refine PW.runs hw_165 rfl 1 (q := (33, [some (.ref 39), some (.int a), some (.int x2), some (.int x3)], [], σ)) (q' := (34, [some (.ref 39), some (.int a), some (.int x2), some (.int x3)], [.ref 39], σ)) rfl ?_
    refine PW.callV (b := 39) (vs := []) (rest := []) (ins_l hw_165 rfl) rfl rfl rfl (Nat.le_of_ble_eq_true rfl) (Nat.le_of_ble_eq_true rfl) (PW.mono h ?_)
    rintro _ σ1 ⟨v1, rfl, h⟩
    show PW none 165 37 [some (.ref 39), some (.int a), some (.int x2), some (.int x3)] [.int v1] σ1 _
    exact PW.iret (ins_l hw_165 rfl) (Or.inl rfl) ⟨_, rfl, h⟩
  · replace h := (if_neg (c_geF hc1)).mp h
    refine PW.runs hw_165 rfl 1 (q := (23, [some (.ref 39), some (.int a), some (.int x2), some (.int x3)], [], σ)) (q' := (24, [some (.ref 39), some (.int a), some (.int x2), some (.int x3)], [.ref 39], σ)) rfl ?_
    refine PW.callV (b := 39) (vs := []) (rest := []) (ins_l hw_165 rfl) rfl rfl rfl (Nat.le_of_ble_eq_true rfl) (Nat.le_of_ble_eq_true rfl) (PW.mono h ?_)
    rintro _ σ2 ⟨rfl, h⟩
    show PW none 165 27 [some (.ref 39), some (.int a), some (.int x2), some (.int x3)] [] σ2 _
    refine PW.runs hw_165 rfl 2 (q := (27, [some (.ref 39), some (.int a), some (.int x2), some (.int x3)], [], σ2)) (q' := (18, [some (.ref 39), some (.int a), some (.int x2), some (.int (x3 + 1))], [], σ2)) rfl ?_
    exact h
theorem hw_166 : pins.getD 166 [] = pi_166 := rfl
/-! MapDutyModel.chanceOf.(I)I -/
set_option maxRecDepth 20000 in
theorem w_166 {a : Int32} {σ : St} {K : Int32 → St → Prop} (h : (¬ a = 0 ∧ K (((Int64.toInt32 ((((Int32.toInt64 (σ 39 12)) * 1103515245) + 12345) - (((Int32.toInt64 (σ 39 12)) * 1103515245) + 12345) / 2147483648 * 2147483648)) / 65536) - ((Int64.toInt32 ((((Int32.toInt64 (σ 39 12)) * 1103515245) + 12345) - (((Int32.toInt64 (σ 39 12)) * 1103515245) + 12345) / 2147483648 * 2147483648)) / 65536) / a * a) (s2 σ 39 12 (Int64.toInt32 ((((Int32.toInt64 (σ 39 12)) * 1103515245) + 12345) - (((Int32.toInt64 (σ 39 12)) * 1103515245) + 12345) / 2147483648 * 2147483648))))) : CI 166 [.ref 39, .int a] σ K := by
  show PW none 166 0 [some (.ref 39), some (.int a)] [] σ _
  refine PW.runs hw_166 rfl 9 (q := (0, [some (.ref 39), some (.int a)], [], σ)) (q' := (17, [some (.ref 39), some (.int a)], [.long 2147483648, .long (((Int32.toInt64 (σ 39 12)) * 1103515245) + 12345), .ref 39], σ)) rfl ?_
  refine PW.step (q := (18, [some (.ref 39), some (.int a)], [.long ((((Int32.toInt64 (σ 39 12)) * 1103515245) + 12345) - (((Int32.toInt64 (σ 39 12)) * 1103515245) + 12345) / 2147483648 * 2147483648), .ref 39], σ)) (ins_l hw_166 rfl) rfl (by simp only [stp, p2, q2]; rw [if_neg (by decide)]) ?_
  refine PW.runs hw_166 rfl 5 (q := (18, [some (.ref 39), some (.int a)], [.long ((((Int32.toInt64 (σ 39 12)) * 1103515245) + 12345) - (((Int32.toInt64 (σ 39 12)) * 1103515245) + 12345) / 2147483648 * 2147483648), .ref 39], σ)) (q' := (29, [some (.ref 39), some (.int a)], [.int 65536, .int (Int64.toInt32 ((((Int32.toInt64 (σ 39 12)) * 1103515245) + 12345) - (((Int32.toInt64 (σ 39 12)) * 1103515245) + 12345) / 2147483648 * 2147483648))], (s2 σ 39 12 (Int64.toInt32 ((((Int32.toInt64 (σ 39 12)) * 1103515245) + 12345) - (((Int32.toInt64 (σ 39 12)) * 1103515245) + 12345) / 2147483648 * 2147483648))))) rfl ?_
  refine PW.step (q := (30, [some (.ref 39), some (.int a)], [.int ((Int64.toInt32 ((((Int32.toInt64 (σ 39 12)) * 1103515245) + 12345) - (((Int32.toInt64 (σ 39 12)) * 1103515245) + 12345) / 2147483648 * 2147483648)) / 65536)], (s2 σ 39 12 (Int64.toInt32 ((((Int32.toInt64 (σ 39 12)) * 1103515245) + 12345) - (((Int32.toInt64 (σ 39 12)) * 1103515245) + 12345) / 2147483648 * 2147483648))))) (ins_l hw_166 rfl) rfl (by simp only [stp, p2, q2]; rw [if_neg (by decide)]) ?_
  refine PW.runs hw_166 rfl 1 (q := (30, [some (.ref 39), some (.int a)], [.int ((Int64.toInt32 ((((Int32.toInt64 (σ 39 12)) * 1103515245) + 12345) - (((Int32.toInt64 (σ 39 12)) * 1103515245) + 12345) / 2147483648 * 2147483648)) / 65536)], (s2 σ 39 12 (Int64.toInt32 ((((Int32.toInt64 (σ 39 12)) * 1103515245) + 12345) - (((Int32.toInt64 (σ 39 12)) * 1103515245) + 12345) / 2147483648 * 2147483648))))) (q' := (31, [some (.ref 39), some (.int a)], [.int a, .int ((Int64.toInt32 ((((Int32.toInt64 (σ 39 12)) * 1103515245) + 12345) - (((Int32.toInt64 (σ 39 12)) * 1103515245) + 12345) / 2147483648 * 2147483648)) / 65536)], (s2 σ 39 12 (Int64.toInt32 ((((Int32.toInt64 (σ 39 12)) * 1103515245) + 12345) - (((Int32.toInt64 (σ 39 12)) * 1103515245) + 12345) / 2147483648 * 2147483648))))) rfl ?_
  obtain ⟨hb, h⟩ := h
  refine PW.step (q := (32, [some (.ref 39), some (.int a)], [.int (((Int64.toInt32 ((((Int32.toInt64 (σ 39 12)) * 1103515245) + 12345) - (((Int32.toInt64 (σ 39 12)) * 1103515245) + 12345) / 2147483648 * 2147483648)) / 65536) - ((Int64.toInt32 ((((Int32.toInt64 (σ 39 12)) * 1103515245) + 12345) - (((Int32.toInt64 (σ 39 12)) * 1103515245) + 12345) / 2147483648 * 2147483648)) / 65536) / a * a)], (s2 σ 39 12 (Int64.toInt32 ((((Int32.toInt64 (σ 39 12)) * 1103515245) + 12345) - (((Int32.toInt64 (σ 39 12)) * 1103515245) + 12345) / 2147483648 * 2147483648))))) (ins_l hw_166 rfl) rfl (by simp only [stp, p2, q2]; rw [if_neg hb]) ?_
  exact PW.iret (ins_l hw_166 rfl) (Or.inl rfl) ⟨_, rfl, h⟩
theorem hw_167 : pins.getD 167 [] = pi_167 := rfl
/-! MapDutyModel.chance.()V -/
set_option maxRecDepth 20000 in
theorem w_167  {σ : St} {K : St → Prop} (h : CI 166 [.ref 39, .int 5] σ (fun v1 σ1 => (if v1 = 0 then CI 166 [.ref 39, .int (σ1 39 1)] σ1 (fun v8 σ8 => K (s2 σ8 46 10 ((σ1 46 10) ^^^ (1 <<< (v8 &&& 31))))) else (if v1 = 1 then (if (σ1 39 6) ≤ 0 then (if v1 = 2 then K σ1 else K σ1) else CI 166 [.ref 39, .int (σ1 39 6)] σ1 (fun v6 σ6 => ((0 ≤ v6.toInt ∧ v6.toInt < 14) ∧ CI 166 [.ref 39, .int (σ6 39 1)] σ6 (fun v7 σ7 => K (s2 σ7 46 (Int32.toNatClampNeg v6) ((σ6 46 (Int32.toNatClampNeg v6)) ^^^ (1 <<< (v7 &&& 31)))))))) else (if v1 = 2 then (if (σ1 39 6) ≤ 0 then K σ1 else (if (σ1 39 9) ≤ 0 then K σ1 else CI 166 [.ref 39, .int (σ1 39 9)] σ1 (fun v2 σ2 => CI 166 [.ref 39, .int (σ2 39 6)] σ2 (fun v3 σ3 => CI 159 [.ref 39, .int v2, .int v3] σ3 (fun v4 σ4 => CV 158 [.ref 39, .int v3, .int v4] σ4 (fun σ5 => K σ5)))))) else K σ1))))) : CV 167 [.ref 39] σ K := by
  show PW none 167 0 [some (.ref 39), none, none, none] [] σ _
  refine PW.runs hw_167 rfl 2 (q := (0, [some (.ref 39), none, none, none], [], σ)) (q' := (2, [some (.ref 39), none, none, none], [.int 5, .ref 39], σ)) rfl ?_
  refine PW.callV (b := 39) (vs := [.int 5]) (rest := []) (ins_l hw_167 rfl) rfl rfl rfl (Nat.le_of_ble_eq_true rfl) (Nat.le_of_ble_eq_true rfl) (PW.mono h ?_)
  rintro _ σ1 ⟨v1, rfl, h⟩
  show PW none 167 5 [some (.ref 39), none, none, none] [.int v1] σ1 _
  refine PW.runs hw_167 rfl 2 (q := (5, [some (.ref 39), none, none, none], [.int v1], σ1)) (q' := (7, [some (.ref 39), some (.int v1), none, none], [.int v1], σ1)) rfl ?_
  refine PW.ifc (t := 33) (ins_l hw_167 rfl) rfl (fun hc1 => ?_) (fun hc1 => ?_)
  · replace h := (if_neg (c_neT hc1)).mp h
    refine PW.runs hw_167 rfl 2 (q := (33, [some (.ref 39), some (.int v1), none, none], [], σ1)) (q' := (35, [some (.ref 39), some (.int v1), none, none], [.int 1, .int v1], σ1)) rfl ?_
    refine PW.icm (t := 76) (ins_l hw_167 rfl) rfl (fun hc2 => ?_) (fun hc2 => ?_)
    · replace h := (if_neg (c_neT hc2)).mp h
      refine PW.runs hw_167 rfl 2 (q := (76, [some (.ref 39), some (.int v1), none, none], [], σ1)) (q' := (78, [some (.ref 39), some (.int v1), none, none], [.int 2, .int v1], σ1)) rfl ?_
      refine PW.icm (t := 124) (ins_l hw_167 rfl) rfl (fun hc3 => ?_) (fun hc3 => ?_)
      · replace h := (if_neg (c_neT hc3)).mp h
        exact PW.vret (ins_l hw_167 rfl) rfl ⟨rfl, h⟩
      · replace h := (if_pos (c_neF hc3)).mp h
        refine PW.runs hw_167 rfl 2 (q := (81, [some (.ref 39), some (.int v1), none, none], [], σ1)) (q' := (85, [some (.ref 39), some (.int v1), none, none], [.int (σ1 39 6)], σ1)) rfl ?_
        refine PW.ifc (t := 124) (ins_l hw_167 rfl) rfl (fun hc4 => ?_) (fun hc4 => ?_)
        · replace h := (if_pos (c_leT hc4)).mp h
          exact PW.vret (ins_l hw_167 rfl) rfl ⟨rfl, h⟩
        · replace h := (if_neg (c_leF hc4)).mp h
          refine PW.runs hw_167 rfl 2 (q := (88, [some (.ref 39), some (.int v1), none, none], [], σ1)) (q' := (92, [some (.ref 39), some (.int v1), none, none], [.int (σ1 39 9)], σ1)) rfl ?_
          refine PW.ifc (t := 124) (ins_l hw_167 rfl) rfl (fun hc5 => ?_) (fun hc5 => ?_)
          · replace h := (if_pos (c_leT hc5)).mp h
            exact PW.vret (ins_l hw_167 rfl) rfl ⟨rfl, h⟩
          · replace h := (if_neg (c_leF hc5)).mp h
            refine PW.runs hw_167 rfl 3 (q := (95, [some (.ref 39), some (.int v1), none, none], [], σ1)) (q' := (100, [some (.ref 39), some (.int v1), none, none], [.int (σ1 39 9), .ref 39], σ1)) rfl ?_
            refine PW.callV (b := 39) (vs := [.int (σ1 39 9)]) (rest := []) (ins_l hw_167 rfl) rfl rfl rfl (Nat.le_of_ble_eq_true rfl) (Nat.le_of_ble_eq_true rfl) (PW.mono h ?_)
            rintro _ σ2 ⟨v2, rfl, h⟩
            show PW none 167 103 [some (.ref 39), some (.int v1), none, none] [.int v2] σ2 _
            refine PW.runs hw_167 rfl 4 (q := (103, [some (.ref 39), some (.int v1), none, none], [.int v2], σ2)) (q' := (109, [some (.ref 39), some (.int v1), some (.int v2), none], [.int (σ2 39 6), .ref 39], σ2)) rfl ?_
            refine PW.callV (b := 39) (vs := [.int (σ2 39 6)]) (rest := []) (ins_l hw_167 rfl) rfl rfl rfl (Nat.le_of_ble_eq_true rfl) (Nat.le_of_ble_eq_true rfl) (PW.mono h ?_)
            rintro _ σ3 ⟨v3, rfl, h⟩
            show PW none 167 112 [some (.ref 39), some (.int v1), some (.int v2), none] [.int v3] σ3 _
            refine PW.runs hw_167 rfl 6 (q := (112, [some (.ref 39), some (.int v1), some (.int v2), none], [.int v3], σ3)) (q' := (118, [some (.ref 39), some (.int v1), some (.int v2), some (.int v3)], [.int v3, .int v2, .ref 39, .int v3, .ref 39], σ3)) rfl ?_
            refine PW.callV (b := 39) (vs := [.int v2, .int v3]) (rest := [.int v3, .ref 39]) (ins_l hw_167 rfl) rfl rfl rfl (Nat.le_of_ble_eq_true rfl) (Nat.le_of_ble_eq_true rfl) (PW.mono h ?_)
            rintro _ σ4 ⟨v4, rfl, h⟩
            show PW none 167 121 [some (.ref 39), some (.int v1), some (.int v2), some (.int v3)] [.int v4, .int v3, .ref 39] σ4 _
            refine PW.callV (b := 39) (vs := [.int v3, .int v4]) (rest := []) (ins_l hw_167 rfl) rfl rfl rfl (Nat.le_of_ble_eq_true rfl) (Nat.le_of_ble_eq_true rfl) (PW.mono h ?_)
            rintro _ σ5 ⟨rfl, h⟩
            show PW none 167 124 [some (.ref 39), some (.int v1), some (.int v2), some (.int v3)] [] σ5 _
            exact PW.vret (ins_l hw_167 rfl) rfl ⟨rfl, h⟩
    · replace h := (if_pos (c_neF hc2)).mp h
      refine PW.runs hw_167 rfl 2 (q := (38, [some (.ref 39), some (.int v1), none, none], [], σ1)) (q' := (42, [some (.ref 39), some (.int v1), none, none], [.int (σ1 39 6)], σ1)) rfl ?_
      refine PW.ifc (t := 76) (ins_l hw_167 rfl) rfl (fun hc3 => ?_) (fun hc3 => ?_)
      · replace h := (if_pos (c_leT hc3)).mp h
        refine PW.runs hw_167 rfl 2 (q := (76, [some (.ref 39), some (.int v1), none, none], [], σ1)) (q' := (78, [some (.ref 39), some (.int v1), none, none], [.int 2, .int v1], σ1)) rfl ?_
        refine PW.icm (t := 124) (ins_l hw_167 rfl) rfl (fun hc4 => ?_) (fun hc4 => ?_)
        · replace h := (if_neg (c_neT hc4)).mp h
          exact PW.vret (ins_l hw_167 rfl) rfl ⟨rfl, h⟩
        · replace h := (if_pos (c_neF hc4)).mp h
          refine PW.runs hw_167 rfl 2 (q := (81, [some (.ref 39), some (.int v1), none, none], [], σ1)) (q' := (85, [some (.ref 39), some (.int v1), none, none], [.int (σ1 39 6)], σ1)) rfl ?_
          refine PW.ifcT (t := 124) (ins_l hw_167 rfl) rfl hc3 ?_
          exact PW.vret (ins_l hw_167 rfl) rfl ⟨rfl, h⟩
      · replace h := (if_neg (c_leF hc3)).mp h
        refine PW.runs hw_167 rfl 3 (q := (45, [some (.ref 39), some (.int v1), none, none], [], σ1)) (q' := (50, [some (.ref 39), some (.int v1), none, none], [.int (σ1 39 6), .ref 39], σ1)) rfl ?_
        refine PW.callV (b := 39) (vs := [.int (σ1 39 6)]) (rest := []) (ins_l hw_167 rfl) rfl rfl rfl (Nat.le_of_ble_eq_true rfl) (Nat.le_of_ble_eq_true rfl) (PW.mono h ?_)
        rintro _ σ6 ⟨v6, rfl, h⟩
        show PW none 167 53 [some (.ref 39), some (.int v1), none, none] [.int v6] σ6 _
        refine PW.runs hw_167 rfl 5 (q := (53, [some (.ref 39), some (.int v1), none, none], [.int v6], σ6)) (q' := (60, [some (.ref 39), some (.int v1), some (.int v6), none], [.int v6, .ref 46, .int v6, .ref 46], σ6)) rfl ?_
        obtain ⟨hb1, h⟩ := h
        refine PW.iald (n := 14) (ins_l hw_167 rfl) rfl (idx_in hb1.1 hb1.2).1 ?_
        refine PW.runs hw_167 rfl 4 (q := (61, [some (.ref 39), some (.int v1), some (.int v6), none], [.int (σ6 46 (Int32.toNatClampNeg v6)), .int v6, .ref 46], σ6)) (q' := (67, [some (.ref 39), some (.int v1), some (.int v6), none], [.int (σ6 39 1), .ref 39, .int 1, .int (σ6 46 (Int32.toNatClampNeg v6)), .int v6, .ref 46], σ6)) rfl ?_
        refine PW.callV (b := 39) (vs := [.int (σ6 39 1)]) (rest := [.int 1, .int (σ6 46 (Int32.toNatClampNeg v6)), .int v6, .ref 46]) (ins_l hw_167 rfl) rfl rfl rfl (Nat.le_of_ble_eq_true rfl) (Nat.le_of_ble_eq_true rfl) (PW.mono h ?_)
        rintro _ σ7 ⟨v7, rfl, h⟩
        show PW none 167 70 [some (.ref 39), some (.int v1), some (.int v6), none] [.int v7, .int 1, .int (σ6 46 (Int32.toNatClampNeg v6)), .int v6, .ref 46] σ7 _
        refine PW.runs hw_167 rfl 2 (q := (70, [some (.ref 39), some (.int v1), some (.int v6), none], [.int v7, .int 1, .int (σ6 46 (Int32.toNatClampNeg v6)), .int v6, .ref 46], σ7)) (q' := (72, [some (.ref 39), some (.int v1), some (.int v6), none], [.int ((σ6 46 (Int32.toNatClampNeg v6)) ^^^ (1 <<< (v7 &&& 31))), .int v6, .ref 46], σ7)) rfl ?_
        refine PW.iast (n := 14) (ins_l hw_167 rfl) rfl (idx_in hb1.1 hb1.2).1 ?_
        refine PW.runs hw_167 rfl 1 (q := (73, [some (.ref 39), some (.int v1), some (.int v6), none], [], (s2 σ7 46 (Int32.toNatClampNeg v6) ((σ6 46 (Int32.toNatClampNeg v6)) ^^^ (1 <<< (v7 &&& 31)))))) (q' := (124, [some (.ref 39), some (.int v1), some (.int v6), none], [], (s2 σ7 46 (Int32.toNatClampNeg v6) ((σ6 46 (Int32.toNatClampNeg v6)) ^^^ (1 <<< (v7 &&& 31)))))) rfl ?_
        exact PW.vret (ins_l hw_167 rfl) rfl ⟨rfl, h⟩
  · replace h := (if_pos (c_neF hc1)).mp h
    refine PW.runs hw_167 rfl 4 (q := (10, [some (.ref 39), some (.int v1), none, none], [], σ1)) (q' := (17, [some (.ref 39), some (.int v1), none, none], [.int 10, .ref 46, .int 10, .ref 46], σ1)) rfl ?_
    refine PW.iald (n := 14) (ins_l hw_167 rfl) rfl (by decide) ?_
    refine PW.runs hw_167 rfl 4 (q := (18, [some (.ref 39), some (.int v1), none, none], [.int (σ1 46 10), .int 10, .ref 46], σ1)) (q' := (24, [some (.ref 39), some (.int v1), none, none], [.int (σ1 39 1), .ref 39, .int 1, .int (σ1 46 10), .int 10, .ref 46], σ1)) rfl ?_
    refine PW.callV (b := 39) (vs := [.int (σ1 39 1)]) (rest := [.int 1, .int (σ1 46 10), .int 10, .ref 46]) (ins_l hw_167 rfl) rfl rfl rfl (Nat.le_of_ble_eq_true rfl) (Nat.le_of_ble_eq_true rfl) (PW.mono h ?_)
    rintro _ σ8 ⟨v8, rfl, h⟩
    show PW none 167 27 [some (.ref 39), some (.int v1), none, none] [.int v8, .int 1, .int (σ1 46 10), .int 10, .ref 46] σ8 _
    refine PW.runs hw_167 rfl 2 (q := (27, [some (.ref 39), some (.int v1), none, none], [.int v8, .int 1, .int (σ1 46 10), .int 10, .ref 46], σ8)) (q' := (29, [some (.ref 39), some (.int v1), none, none], [.int ((σ1 46 10) ^^^ (1 <<< (v8 &&& 31))), .int 10, .ref 46], σ8)) rfl ?_
    refine PW.iast (n := 14) (ins_l hw_167 rfl) rfl (by decide) ?_
    refine PW.runs hw_167 rfl 1 (q := (30, [some (.ref 39), some (.int v1), none, none], [], (s2 σ8 46 10 ((σ1 46 10) ^^^ (1 <<< (v8 &&& 31)))))) (q' := (124, [some (.ref 39), some (.int v1), none, none], [], (s2 σ8 46 10 ((σ1 46 10) ^^^ (1 <<< (v8 &&& 31)))))) rfl ?_
    exact PW.vret (ins_l hw_167 rfl) rfl ⟨rfl, h⟩
theorem hw_168 : pins.getD 168 [] = pi_168 := rfl
/-! MapDutyModel.drift.(I)I -/
set_option maxRecDepth 20000 in
theorem w_168 {a : Int32} {σ : St} {K : Int32 → St → Prop} (h : CI 164 [.ref 39, .int a] σ (fun v1 σ1 => (if v1 = 0 then CV 153 [.ref 39] σ1 (fun σ2 => PI 168 18 [some (.ref 39), some (.int a), some (.int v1), some (.int 0)] [] σ2 K) else K v1 σ1))) : CI 168 [.ref 39, .int a] σ K := by
  show PW none 168 0 [some (.ref 39), some (.int a), none, none] [] σ _
  refine PW.runs hw_168 rfl 2 (q := (0, [some (.ref 39), some (.int a), none, none], [], σ)) (q' := (2, [some (.ref 39), some (.int a), none, none], [.int a, .ref 39], σ)) rfl ?_
  refine PW.callV (b := 39) (vs := [.int a]) (rest := []) (ins_l hw_168 rfl) rfl rfl rfl (Nat.le_of_ble_eq_true rfl) (Nat.le_of_ble_eq_true rfl) (PW.mono h ?_)
  rintro _ σ1 ⟨v1, rfl, h⟩
  show PW none 168 5 [some (.ref 39), some (.int a), none, none] [.int v1] σ1 _
  refine PW.runs hw_168 rfl 2 (q := (5, [some (.ref 39), some (.int a), none, none], [.int v1], σ1)) (q' := (7, [some (.ref 39), some (.int a), some (.int v1), none], [.int v1], σ1)) rfl ?_
  refine PW.ifc (t := 12) (ins_l hw_168 rfl) rfl (fun hc1 => ?_) (fun hc1 => ?_)
  · replace h := (if_pos (c_eqT hc1)).mp h
    refine PW.runs hw_168 rfl 1 (q := (12, [some (.ref 39), some (.int a), some (.int v1), none], [], σ1)) (q' := (13, [some (.ref 39), some (.int a), some (.int v1), none], [.ref 39], σ1)) rfl ?_
    refine PW.callV (b := 39) (vs := []) (rest := []) (ins_l hw_168 rfl) rfl rfl rfl (Nat.le_of_ble_eq_true rfl) (Nat.le_of_ble_eq_true rfl) (PW.mono h ?_)
    rintro _ σ2 ⟨rfl, h⟩
    show PW none 168 16 [some (.ref 39), some (.int a), some (.int v1), none] [] σ2 _
    refine PW.runs hw_168 rfl 2 (q := (16, [some (.ref 39), some (.int a), some (.int v1), none], [], σ2)) (q' := (18, [some (.ref 39), some (.int a), some (.int v1), some (.int 0)], [], σ2)) rfl ?_
    exact h
  · replace h := (if_neg (c_eqF hc1)).mp h
    refine PW.runs hw_168 rfl 1 (q := (10, [some (.ref 39), some (.int a), some (.int v1), none], [], σ1)) (q' := (11, [some (.ref 39), some (.int a), some (.int v1), none], [.int v1], σ1)) rfl ?_
    exact PW.iret (ins_l hw_168 rfl) (Or.inl rfl) ⟨_, rfl, h⟩
set_option maxRecDepth 20000 in
theorem w_168_18 {a : Int32} {x2 : Int32} {x3 : Int32} {σ : St} {K : Int32 → St → Prop} (h : (if a ≤ x3 then CI 162 [.ref 39] σ (fun v1 σ1 => K v1 σ1) else (if (σ 39 1) ≤ 0 then CV 163 [.ref 39] σ (fun σ2 => PI 168 18 [some (.ref 39), some (.int a), some (.int x2), some (.int (x3 + 1))] [] σ2 K) else CV 167 [.ref 39] σ (fun σ3 => CV 163 [.ref 39] σ3 (fun σ4 => PI 168 18 [some (.ref 39), some (.int a), some (.int x2), some (.int (x3 + 1))] [] σ4 K))))) : PI 168 18 [some (.ref 39), some (.int a), some (.int x2), some (.int x3)] [] σ K := by
  show PW none 168 18 [some (.ref 39), some (.int a), some (.int x2), some (.int x3)] [] σ _
  refine PW.runs hw_168 rfl 2 (q := (18, [some (.ref 39), some (.int a), some (.int x2), some (.int x3)], [], σ)) (q' := (20, [some (.ref 39), some (.int a), some (.int x2), some (.int x3)], [.int a, .int x3], σ)) rfl ?_
  refine PW.icm (t := 44) (ins_l hw_168 rfl) rfl (fun hc1 => ?_) (fun hc1 => ?_)
  · replace h := (if_pos (c_geT hc1)).mp h
    refine PW.runs hw_168 rfl 1 (q := (44, [some (.ref 39), some (.int a), some (.int x2), some (.int x3)], [], σ)) (q' := (45, [some (.ref 39), some (.int a), some (.int x2), some (.int x3)], [.ref 39], σ)) rfl ?_
    refine PW.callV (b := 39) (vs := []) (rest := []) (ins_l hw_168 rfl) rfl rfl rfl (Nat.le_of_ble_eq_true rfl) (Nat.le_of_ble_eq_true rfl) (PW.mono h ?_)
    rintro _ σ1 ⟨v1, rfl, h⟩
    show PW none 168 48 [some (.ref 39), some (.int a), some (.int x2), some (.int x3)] [.int v1] σ1 _
    exact PW.iret (ins_l hw_168 rfl) (Or.inl rfl) ⟨_, rfl, h⟩
  · replace h := (if_neg (c_geF hc1)).mp h
    refine PW.runs hw_168 rfl 2 (q := (23, [some (.ref 39), some (.int a), some (.int x2), some (.int x3)], [], σ)) (q' := (27, [some (.ref 39), some (.int a), some (.int x2), some (.int x3)], [.int (σ 39 1)], σ)) rfl ?_
    refine PW.ifc (t := 34) (ins_l hw_168 rfl) rfl (fun hc2 => ?_) (fun hc2 => ?_)
    · replace h := (if_pos (c_leT hc2)).mp h
      refine PW.runs hw_168 rfl 1 (q := (34, [some (.ref 39), some (.int a), some (.int x2), some (.int x3)], [], σ)) (q' := (35, [some (.ref 39), some (.int a), some (.int x2), some (.int x3)], [.ref 39], σ)) rfl ?_
      refine PW.callV (b := 39) (vs := []) (rest := []) (ins_l hw_168 rfl) rfl rfl rfl (Nat.le_of_ble_eq_true rfl) (Nat.le_of_ble_eq_true rfl) (PW.mono h ?_)
      rintro _ σ2 ⟨rfl, h⟩
      show PW none 168 38 [some (.ref 39), some (.int a), some (.int x2), some (.int x3)] [] σ2 _
      refine PW.runs hw_168 rfl 2 (q := (38, [some (.ref 39), some (.int a), some (.int x2), some (.int x3)], [], σ2)) (q' := (18, [some (.ref 39), some (.int a), some (.int x2), some (.int (x3 + 1))], [], σ2)) rfl ?_
      exact h
    · replace h := (if_neg (c_leF hc2)).mp h
      refine PW.runs hw_168 rfl 1 (q := (30, [some (.ref 39), some (.int a), some (.int x2), some (.int x3)], [], σ)) (q' := (31, [some (.ref 39), some (.int a), some (.int x2), some (.int x3)], [.ref 39], σ)) rfl ?_
      refine PW.callV (b := 39) (vs := []) (rest := []) (ins_l hw_168 rfl) rfl rfl rfl (Nat.le_of_ble_eq_true rfl) (Nat.le_of_ble_eq_true rfl) (PW.mono h ?_)
      rintro _ σ3 ⟨rfl, h⟩
      show PW none 168 34 [some (.ref 39), some (.int a), some (.int x2), some (.int x3)] [] σ3 _
      refine PW.runs hw_168 rfl 1 (q := (34, [some (.ref 39), some (.int a), some (.int x2), some (.int x3)], [], σ3)) (q' := (35, [some (.ref 39), some (.int a), some (.int x2), some (.int x3)], [.ref 39], σ3)) rfl ?_
      refine PW.callV (b := 39) (vs := []) (rest := []) (ins_l hw_168 rfl) rfl rfl rfl (Nat.le_of_ble_eq_true rfl) (Nat.le_of_ble_eq_true rfl) (PW.mono h ?_)
      rintro _ σ4 ⟨rfl, h⟩
      show PW none 168 38 [some (.ref 39), some (.int a), some (.int x2), some (.int x3)] [] σ4 _
      refine PW.runs hw_168 rfl 2 (q := (38, [some (.ref 39), some (.int a), some (.int x2), some (.int x3)], [], σ4)) (q' := (18, [some (.ref 39), some (.int a), some (.int x2), some (.int (x3 + 1))], [], σ4)) rfl ?_
      exact h
theorem hw_169 : pins.getD 169 [] = pi_169 := rfl
/-! MapDutyModel.undo.()I -/
set_option maxRecDepth 20000 in
theorem w_169  {σ : St} {K : Int32 → St → Prop} (h : (if (σ 39 32) = 0 then K (-1000000003) σ else PI 169 23 [some (.ref 39), some (.int 0)] [] (s2 σ 39 32 ((σ 39 32) - 1)) K)) : CI 169 [.ref 39] σ K := by
  show PW none 169 0 [some (.ref 39), none] [] σ _
  refine PW.runs hw_169 rfl 2 (q := (0, [some (.ref 39), none], [], σ)) (q' := (4, [some (.ref 39), none], [.int (σ 39 32)], σ)) rfl ?_
  refine PW.ifc (t := 11) (ins_l hw_169 rfl) rfl (fun hc1 => ?_) (fun hc1 => ?_)
  · replace h := (if_neg (c_neT hc1)).mp h
    refine PW.runs hw_169 rfl 8 (q := (11, [some (.ref 39), none], [], σ)) (q' := (23, [some (.ref 39), some (.int 0)], [], (s2 σ 39 32 ((σ 39 32) - 1)))) rfl ?_
    exact h
  · replace h := (if_pos (c_neF hc1)).mp h
    refine PW.runs hw_169 rfl 1 (q := (7, [some (.ref 39), none], [], σ)) (q' := (10, [some (.ref 39), none], [.int (-1000000003)], σ)) rfl ?_
    exact PW.iret (ins_l hw_169 rfl) (Or.inl rfl) ⟨_, rfl, h⟩
set_option maxRecDepth 20000 in
theorem w_169_23 {x1 : Int32} {σ : St} {K : Int32 → St → Prop} (h : (if 14 ≤ x1 then K (σ 39 32) σ else ((0 ≤ ((14 * (σ 39 32)) + x1).toInt ∧ ((14 * (σ 39 32)) + x1).toInt < 224) ∧ ((0 ≤ x1.toInt ∧ x1.toInt < 14) ∧ PI 169 23 [some (.ref 39), some (.int (x1 + 1))] [] (s2 σ 46 (Int32.toNatClampNeg x1) (σ 56 (Int32.toNatClampNeg ((14 * (σ 39 32)) + x1)))) K)))) : PI 169 23 [some (.ref 39), some (.int x1)] [] σ K := by
  show PW none 169 23 [some (.ref 39), some (.int x1)] [] σ _
  refine PW.runs hw_169 rfl 2 (q := (23, [some (.ref 39), some (.int x1)], [], σ)) (q' := (26, [some (.ref 39), some (.int x1)], [.int 14, .int x1], σ)) rfl ?_
  refine PW.icm (t := 55) (ins_l hw_169 rfl) rfl (fun hc1 => ?_) (fun hc1 => ?_)
  · replace h := (if_pos (c_geT hc1)).mp h
    refine PW.runs hw_169 rfl 2 (q := (55, [some (.ref 39), some (.int x1)], [], σ)) (q' := (59, [some (.ref 39), some (.int x1)], [.int (σ 39 32)], σ)) rfl ?_
    exact PW.iret (ins_l hw_169 rfl) (Or.inl rfl) ⟨_, rfl, h⟩
  · replace h := (if_neg (c_geF hc1)).mp h
    refine PW.runs hw_169 rfl 11 (q := (29, [some (.ref 39), some (.int x1)], [], σ)) (q' := (47, [some (.ref 39), some (.int x1)], [.int ((14 * (σ 39 32)) + x1), .ref 56, .int x1, .ref 46], σ)) rfl ?_
    obtain ⟨hb1, h⟩ := h
    refine PW.iald (n := 224) (ins_l hw_169 rfl) rfl (idx_in hb1.1 hb1.2).1 ?_
    obtain ⟨hb2, h⟩ := h
    refine PW.iast (n := 14) (ins_l hw_169 rfl) rfl (idx_in hb2.1 hb2.2).1 ?_
    refine PW.runs hw_169 rfl 2 (q := (49, [some (.ref 39), some (.int x1)], [], (s2 σ 46 (Int32.toNatClampNeg x1) (σ 56 (Int32.toNatClampNeg ((14 * (σ 39 32)) + x1)))))) (q' := (23, [some (.ref 39), some (.int (x1 + 1))], [], (s2 σ 46 (Int32.toNatClampNeg x1) (σ 56 (Int32.toNatClampNeg ((14 * (σ 39 32)) + x1)))))) rfl ?_
    exact h
theorem hw_179 : pins.getD 179 [] = pi_179 := rfl
/-! MapDutyModel.unlike.(II)I -/
set_option maxRecDepth 20000 in
theorem w_179 {a : Int32} {b : Int32} {σ : St} {K : Int32 → St → Prop} (h : CI 115 [.ref 39, .int a] σ (fun v1 σ1 => (if v1 = 0 then K (-1000000001) σ1 else CI 115 [.ref 39, .int b] σ1 (fun v2 σ2 => (if v2 = 0 then K (-1000000001) σ2 else (if a = b then K (-1000000001) σ2 else ((0 ≤ a.toInt ∧ a.toInt < 14) ∧ ((0 ≤ b.toInt ∧ b.toInt < 14) ∧ K ((σ2 46 (Int32.toNatClampNeg a)) ^^^ (σ2 46 (Int32.toNatClampNeg b))) σ2)))))))) : CI 179 [.ref 39, .int a, .int b] σ K := by
  show PW none 179 0 [some (.ref 39), some (.int a), some (.int b)] [] σ _
  refine PW.runs hw_179 rfl 2 (q := (0, [some (.ref 39), some (.int a), some (.int b)], [], σ)) (q' := (2, [some (.ref 39), some (.int a), some (.int b)], [.int a, .ref 39], σ)) rfl ?_
  refine PW.callV (b := 39) (vs := [.int a]) (rest := []) (ins_l hw_179 rfl) rfl rfl rfl (Nat.le_of_ble_eq_true rfl) (Nat.le_of_ble_eq_true rfl) (PW.mono h ?_)
  rintro _ σ1 ⟨v1, rfl, h⟩
  show PW none 179 5 [some (.ref 39), some (.int a), some (.int b)] [.int v1] σ1 _
  refine PW.ifc (t := 37) (ins_l hw_179 rfl) rfl (fun hc1 => ?_) (fun hc1 => ?_)
  · replace h := (if_pos (c_eqT hc1)).mp h
    refine PW.runs hw_179 rfl 1 (q := (37, [some (.ref 39), some (.int a), some (.int b)], [], σ1)) (q' := (39, [some (.ref 39), some (.int a), some (.int b)], [.int (-1000000001)], σ1)) rfl ?_
    exact PW.iret (ins_l hw_179 rfl) (Or.inl rfl) ⟨_, rfl, h⟩
  · replace h := (if_neg (c_eqF hc1)).mp h
    refine PW.runs hw_179 rfl 2 (q := (8, [some (.ref 39), some (.int a), some (.int b)], [], σ1)) (q' := (10, [some (.ref 39), some (.int a), some (.int b)], [.int b, .ref 39], σ1)) rfl ?_
    refine PW.callV (b := 39) (vs := [.int b]) (rest := []) (ins_l hw_179 rfl) rfl rfl rfl (Nat.le_of_ble_eq_true rfl) (Nat.le_of_ble_eq_true rfl) (PW.mono h ?_)
    rintro _ σ2 ⟨v2, rfl, h⟩
    show PW none 179 13 [some (.ref 39), some (.int a), some (.int b)] [.int v2] σ2 _
    refine PW.ifc (t := 37) (ins_l hw_179 rfl) rfl (fun hc2 => ?_) (fun hc2 => ?_)
    · replace h := (if_pos (c_eqT hc2)).mp h
      refine PW.runs hw_179 rfl 1 (q := (37, [some (.ref 39), some (.int a), some (.int b)], [], σ2)) (q' := (39, [some (.ref 39), some (.int a), some (.int b)], [.int (-1000000001)], σ2)) rfl ?_
      exact PW.iret (ins_l hw_179 rfl) (Or.inl rfl) ⟨_, rfl, h⟩
    · replace h := (if_neg (c_eqF hc2)).mp h
      refine PW.runs hw_179 rfl 2 (q := (16, [some (.ref 39), some (.int a), some (.int b)], [], σ2)) (q' := (18, [some (.ref 39), some (.int a), some (.int b)], [.int b, .int a], σ2)) rfl ?_
      refine PW.icm (t := 37) (ins_l hw_179 rfl) rfl (fun hc3 => ?_) (fun hc3 => ?_)
      · replace h := (if_pos (c_eqT hc3)).mp h
        refine PW.runs hw_179 rfl 1 (q := (37, [some (.ref 39), some (.int a), some (.int b)], [], σ2)) (q' := (39, [some (.ref 39), some (.int a), some (.int b)], [.int (-1000000001)], σ2)) rfl ?_
        exact PW.iret (ins_l hw_179 rfl) (Or.inl rfl) ⟨_, rfl, h⟩
      · replace h := (if_neg (c_eqF hc3)).mp h
        refine PW.runs hw_179 rfl 3 (q := (21, [some (.ref 39), some (.int a), some (.int b)], [], σ2)) (q' := (26, [some (.ref 39), some (.int a), some (.int b)], [.int a, .ref 46], σ2)) rfl ?_
        obtain ⟨hb1, h⟩ := h
        refine PW.iald (n := 14) (ins_l hw_179 rfl) rfl (idx_in hb1.1 hb1.2).1 ?_
        refine PW.runs hw_179 rfl 3 (q := (27, [some (.ref 39), some (.int a), some (.int b)], [.int (σ2 46 (Int32.toNatClampNeg a))], σ2)) (q' := (32, [some (.ref 39), some (.int a), some (.int b)], [.int b, .ref 46, .int (σ2 46 (Int32.toNatClampNeg a))], σ2)) rfl ?_
        obtain ⟨hb2, h⟩ := h
        refine PW.iald (n := 14) (ins_l hw_179 rfl) rfl (idx_in hb2.1 hb2.2).1 ?_
        refine PW.runs hw_179 rfl 2 (q := (33, [some (.ref 39), some (.int a), some (.int b)], [.int (σ2 46 (Int32.toNatClampNeg b)), .int (σ2 46 (Int32.toNatClampNeg a))], σ2)) (q' := (39, [some (.ref 39), some (.int a), some (.int b)], [.int ((σ2 46 (Int32.toNatClampNeg a)) ^^^ (σ2 46 (Int32.toNatClampNeg b)))], σ2)) rfl ?_
        exact PW.iret (ins_l hw_179 rfl) (Or.inl rfl) ⟨_, rfl, h⟩
theorem hw_188 : pins.getD 188 [] = pi_188 := rfl
/-! MapDutyModel.seed.(I)I -/
set_option maxRecDepth 20000 in
theorem w_188 {a : Int32} {σ : St} {K : Int32 → St → Prop} (h : (if 0 ≤ a then K (σ 39 12) (s2 σ 39 12 a) else K (-1000000002) σ)) : CI 188 [.ref 39, .int a] σ K := by
  show PW none 188 0 [some (.ref 39), some (.int a), none] [] σ _
  refine PW.runs hw_188 rfl 1 (q := (0, [some (.ref 39), some (.int a), none], [], σ)) (q' := (1, [some (.ref 39), some (.int a), none], [.int a], σ)) rfl ?_
  refine PW.ifc (t := 7) (ins_l hw_188 rfl) rfl (fun hc1 => ?_) (fun hc1 => ?_)
  · replace h := (if_pos (c_geT hc1)).mp h
    refine PW.runs hw_188 rfl 7 (q := (7, [some (.ref 39), some (.int a), none], [], σ)) (q' := (18, [some (.ref 39), some (.int a), some (.int (σ 39 12))], [.int (σ 39 12)], (s2 σ 39 12 a))) rfl ?_
    exact PW.iret (ins_l hw_188 rfl) (Or.inl rfl) ⟨_, rfl, h⟩
  · replace h := (if_neg (c_geF hc1)).mp h
    refine PW.runs hw_188 rfl 1 (q := (4, [some (.ref 39), some (.int a), none], [], σ)) (q' := (6, [some (.ref 39), some (.int a), none], [.int (-1000000002)], σ)) rfl ?_
    exact PW.iret (ins_l hw_188 rfl) (Or.inl rfl) ⟨_, rfl, h⟩
theorem hw_151 : pins.getD 151 [] = pi_151 := rfl
/-! MapDutyModel.line.(II)I -/
set_option maxRecDepth 20000 in
theorem w_151 {a : Int32} {b : Int32} {σ : St} {K : Int32 → St → Prop} (h : CI 114 [.ref 39, .int a] σ (fun v1 σ1 => (if v1 = 0 then K (-1000000001) σ1 else (if b = 0 then ((0 ≤ a.toInt ∧ a.toInt < 12) ∧ K (σ1 40 (Int32.toNatClampNeg a)) σ1) else (if b = 1 then ((0 ≤ a.toInt ∧ a.toInt < 12) ∧ K (σ1 41 (Int32.toNatClampNeg a)) σ1) else (if b = 2 then K (((σ1 46 10) >>> (a &&& 31)) &&& 1) σ1 else (if b = 3 then ((0 ≤ a.toInt ∧ a.toInt < 12) ∧ K (σ1 42 (Int32.toNatClampNeg a)) σ1) else (if b = 4 then CI 150 [.ref 39, .int a] σ1 (fun v2 σ2 => K v2 σ2) else K (-1000000002) σ1)))))))) : CI 151 [.ref 39, .int a, .int b] σ K := by
  show PW none 151 0 [some (.ref 39), some (.int a), some (.int b)] [] σ _
  refine PW.runs hw_151 rfl 2 (q := (0, [some (.ref 39), some (.int a), some (.int b)], [], σ)) (q' := (2, [some (.ref 39), some (.int a), some (.int b)], [.int a, .ref 39], σ)) rfl ?_
  refine PW.callV (b := 39) (vs := [.int a]) (rest := []) (ins_l hw_151 rfl) rfl rfl rfl (Nat.le_of_ble_eq_true rfl) (Nat.le_of_ble_eq_true rfl) (PW.mono h ?_)
  rintro _ σ1 ⟨v1, rfl, h⟩
  show PW none 151 5 [some (.ref 39), some (.int a), some (.int b)] [.int v1] σ1 _
  refine PW.ifc (t := 11) (ins_l hw_151 rfl) rfl (fun hc1 => ?_) (fun hc1 => ?_)
  · replace h := (if_neg (c_neT hc1)).mp h
    refine PW.runs hw_151 rfl 1 (q := (11, [some (.ref 39), some (.int a), some (.int b)], [], σ1)) (q' := (12, [some (.ref 39), some (.int a), some (.int b)], [.int b], σ1)) rfl ?_
    by_cases c0 : b = 0
    · replace h := (if_pos c0).mp h
      refine PW.tswK (k := 0) (t := 48) (ins_l hw_151 rfl) c0 (by decide) (by decide) rfl rfl ?_
      refine PW.runs hw_151 rfl 3 (q := (48, [some (.ref 39), some (.int a), some (.int b)], [], σ1)) (q' := (53, [some (.ref 39), some (.int a), some (.int b)], [.int a, .ref 40], σ1)) rfl ?_
      obtain ⟨hb1, h⟩ := h
      refine PW.iald (n := 12) (ins_l hw_151 rfl) rfl (idx_in hb1.1 hb1.2).1 ?_
      exact PW.iret (ins_l hw_151 rfl) (Or.inl rfl) ⟨_, rfl, h⟩
    replace h := (if_neg c0).mp h
    by_cases c1 : b = 1
    · replace h := (if_pos c1).mp h
      refine PW.tswK (k := 1) (t := 55) (ins_l hw_151 rfl) c1 (by decide) (by decide) rfl rfl ?_
      refine PW.runs hw_151 rfl 3 (q := (55, [some (.ref 39), some (.int a), some (.int b)], [], σ1)) (q' := (60, [some (.ref 39), some (.int a), some (.int b)], [.int a, .ref 41], σ1)) rfl ?_
      obtain ⟨hb1, h⟩ := h
      refine PW.iald (n := 12) (ins_l hw_151 rfl) rfl (idx_in hb1.1 hb1.2).1 ?_
      exact PW.iret (ins_l hw_151 rfl) (Or.inl rfl) ⟨_, rfl, h⟩
    replace h := (if_neg c1).mp h
    by_cases c2 : b = 2
    · replace h := (if_pos c2).mp h
      refine PW.tswK (k := 2) (t := 62) (ins_l hw_151 rfl) c2 (by decide) (by decide) rfl rfl ?_
      refine PW.runs hw_151 rfl 3 (q := (62, [some (.ref 39), some (.int a), some (.int b)], [], σ1)) (q' := (68, [some (.ref 39), some (.int a), some (.int b)], [.int 10, .ref 46], σ1)) rfl ?_
      refine PW.iald (n := 14) (ins_l hw_151 rfl) rfl (by decide) ?_
      refine PW.runs hw_151 rfl 4 (q := (69, [some (.ref 39), some (.int a), some (.int b)], [.int (σ1 46 10)], σ1)) (q' := (73, [some (.ref 39), some (.int a), some (.int b)], [.int (((σ1 46 10) >>> (a &&& 31)) &&& 1)], σ1)) rfl ?_
      exact PW.iret (ins_l hw_151 rfl) (Or.inl rfl) ⟨_, rfl, h⟩
    replace h := (if_neg c2).mp h
    by_cases c3 : b = 3
    · replace h := (if_pos c3).mp h
      refine PW.tswK (k := 3) (t := 74) (ins_l hw_151 rfl) c3 (by decide) (by decide) rfl rfl ?_
      refine PW.runs hw_151 rfl 3 (q := (74, [some (.ref 39), some (.int a), some (.int b)], [], σ1)) (q' := (79, [some (.ref 39), some (.int a), some (.int b)], [.int a, .ref 42], σ1)) rfl ?_
      obtain ⟨hb1, h⟩ := h
      refine PW.iald (n := 12) (ins_l hw_151 rfl) rfl (idx_in hb1.1 hb1.2).1 ?_
      exact PW.iret (ins_l hw_151 rfl) (Or.inl rfl) ⟨_, rfl, h⟩
    replace h := (if_neg c3).mp h
    by_cases c4 : b = 4
    · replace h := (if_pos c4).mp h
      refine PW.tswK (k := 4) (t := 81) (ins_l hw_151 rfl) c4 (by decide) (by decide) rfl rfl ?_
      refine PW.runs hw_151 rfl 2 (q := (81, [some (.ref 39), some (.int a), some (.int b)], [], σ1)) (q' := (83, [some (.ref 39), some (.int a), some (.int b)], [.int a, .ref 39], σ1)) rfl ?_
      refine PW.callV (b := 39) (vs := [.int a]) (rest := []) (ins_l hw_151 rfl) rfl rfl rfl (Nat.le_of_ble_eq_true rfl) (Nat.le_of_ble_eq_true rfl) (PW.mono h ?_)
      rintro _ σ2 ⟨v2, rfl, h⟩
      show PW none 151 86 [some (.ref 39), some (.int a), some (.int b)] [.int v2] σ2 _
      exact PW.iret (ins_l hw_151 rfl) (Or.inl rfl) ⟨_, rfl, h⟩
    replace h := (if_neg c4).mp h
    have hD : PI 151 87 [some (.ref 39), some (.int a), some (.int b)] [] σ1 K := by
      refine PW.runs hw_151 rfl 1 (q := (87, [some (.ref 39), some (.int a), some (.int b)], [], σ1)) (q' := (89, [some (.ref 39), some (.int a), some (.int b)], [.int (-1000000002)], σ1)) rfl ?_
      exact PW.iret (ins_l hw_151 rfl) (Or.inl rfl) ⟨_, rfl, h⟩
    refine PW.tswD (t := 87) (ins_l hw_151 rfl) ?_ rfl hD
    have zc0 := tne c0 (k := 0) rfl
    have zc1 := tne c1 (k := 1) rfl
    have zc2 := tne c2 (k := 2) rfl
    have zc3 := tne c3 (k := 3) rfl
    have zc4 := tne c4 (k := 4) rfl
    omega
  · replace h := (if_pos (c_neF hc1)).mp h
    refine PW.runs hw_151 rfl 1 (q := (8, [some (.ref 39), some (.int a), some (.int b)], [], σ1)) (q' := (10, [some (.ref 39), some (.int a), some (.int b)], [.int (-1000000001)], σ1)) rfl ?_
    exact PW.iret (ins_l hw_151 rfl) (Or.inl rfl) ⟨_, rfl, h⟩
theorem hw_150 : pins.getD 150 [] = pi_150 := rfl
/-! MapDutyModel.showers.(I)I -/
set_option maxRecDepth 20000 in
theorem w_150 {a : Int32} {σ : St} {K : Int32 → St → Prop} (h : PI 150 4 [some (.ref 39), some (.int a), some (.int 0), some (.int 0)] [] σ K) : CI 150 [.ref 39, .int a] σ K := by
  show PW none 150 0 [some (.ref 39), some (.int a), none, none] [] σ _
  refine PW.runs hw_150 rfl 4 (q := (0, [some (.ref 39), some (.int a), none, none], [], σ)) (q' := (4, [some (.ref 39), some (.int a), some (.int 0), some (.int 0)], [], σ)) rfl ?_
  exact h
set_option maxRecDepth 20000 in
theorem w_150_4 {a : Int32} {x2 : Int32} {x3 : Int32} {σ : St} {K : Int32 → St → Prop} (h : (if (σ 39 6) ≤ x3 then K x2 σ else ((0 ≤ x3.toInt ∧ x3.toInt < 14) ∧ CI 110 [.int (σ 46 (Int32.toNatClampNeg x3)), .int a] σ (fun v1 σ1 => (if v1 = 0 then PI 150 4 [some (.ref 39), some (.int a), some (.int (x2 ||| 0)), some (.int (x3 + 1))] [] σ1 K else PI 150 4 [some (.ref 39), some (.int a), some (.int (x2 ||| (1 <<< (x3 &&& 31)))), some (.int (x3 + 1))] [] σ1 K))))) : PI 150 4 [some (.ref 39), some (.int a), some (.int x2), some (.int x3)] [] σ K := by
  show PW none 150 4 [some (.ref 39), some (.int a), some (.int x2), some (.int x3)] [] σ _
  refine PW.runs hw_150 rfl 3 (q := (4, [some (.ref 39), some (.int a), some (.int x2), some (.int x3)], [], σ)) (q' := (9, [some (.ref 39), some (.int a), some (.int x2), some (.int x3)], [.int (σ 39 6), .int x3], σ)) rfl ?_
  refine PW.icm (t := 41) (ins_l hw_150 rfl) rfl (fun hc1 => ?_) (fun hc1 => ?_)
  · replace h := (if_pos (c_geT hc1)).mp h
    refine PW.runs hw_150 rfl 1 (q := (41, [some (.ref 39), some (.int a), some (.int x2), some (.int x3)], [], σ)) (q' := (42, [some (.ref 39), some (.int a), some (.int x2), some (.int x3)], [.int x2], σ)) rfl ?_
    exact PW.iret (ins_l hw_150 rfl) (Or.inl rfl) ⟨_, rfl, h⟩
  · replace h := (if_neg (c_geF hc1)).mp h
    refine PW.runs hw_150 rfl 4 (q := (12, [some (.ref 39), some (.int a), some (.int x2), some (.int x3)], [], σ)) (q' := (18, [some (.ref 39), some (.int a), some (.int x2), some (.int x3)], [.int x3, .ref 46, .int x2], σ)) rfl ?_
    obtain ⟨hb1, h⟩ := h
    refine PW.iald (n := 14) (ins_l hw_150 rfl) rfl (idx_in hb1.1 hb1.2).1 ?_
    refine PW.runs hw_150 rfl 1 (q := (19, [some (.ref 39), some (.int a), some (.int x2), some (.int x3)], [.int (σ 46 (Int32.toNatClampNeg x3)), .int x2], σ)) (q' := (20, [some (.ref 39), some (.int a), some (.int x2), some (.int x3)], [.int a, .int (σ 46 (Int32.toNatClampNeg x3)), .int x2], σ)) rfl ?_
    refine PW.callS (vs := [.int (σ 46 (Int32.toNatClampNeg x3)), .int a]) (rest := [.int x2]) (ins_l hw_150 rfl) rfl (Or.inl rfl) rfl (Nat.le_of_ble_eq_true rfl) (Nat.le_of_ble_eq_true rfl) (PW.mono h ?_)
    rintro _ σ1 ⟨v1, rfl, h⟩
    show PW none 150 23 [some (.ref 39), some (.int a), some (.int x2), some (.int x3)] [.int v1, .int x2] σ1 _
    refine PW.ifc (t := 32) (ins_l hw_150 rfl) rfl (fun hc2 => ?_) (fun hc2 => ?_)
    · replace h := (if_pos (c_eqT hc2)).mp h
      refine PW.runs hw_150 rfl 5 (q := (32, [some (.ref 39), some (.int a), some (.int x2), some (.int x3)], [.int x2], σ1)) (q' := (4, [some (.ref 39), some (.int a), some (.int (x2 ||| 0)), some (.int (x3 + 1))], [], σ1)) rfl ?_
      exact h
    · replace h := (if_neg (c_eqF hc2)).mp h
      refine PW.runs hw_150 rfl 8 (q := (26, [some (.ref 39), some (.int a), some (.int x2), some (.int x3)], [.int x2], σ1)) (q' := (4, [some (.ref 39), some (.int a), some (.int (x2 ||| (1 <<< (x3 &&& 31)))), some (.int (x3 + 1))], [], σ1)) rfl ?_
      exact h
theorem hw_136 : pins.getD 136 [] = pi_136 := rfl
/-! MapDutyModel.dutyOfMap.(I)I -/
set_option maxRecDepth 20000 in
theorem w_136 {a : Int32} {σ : St} {K : Int32 → St → Prop} (h : ((0 ≤ a.toInt ∧ a.toInt < 5) ∧ CI 135 [.ref 39, .int (σ 43 (Int32.toNatClampNeg a)), .int (σ 46 (Int32.toNatClampNeg a))] σ (fun v1 σ1 => K v1 σ1))) : CI 136 [.ref 39, .int a] σ K := by
  show PW none 136 0 [some (.ref 39), some (.int a)] [] σ _
  refine PW.runs hw_136 rfl 4 (q := (0, [some (.ref 39), some (.int a)], [], σ)) (q' := (6, [some (.ref 39), some (.int a)], [.int a, .ref 43, .ref 39], σ)) rfl ?_
  obtain ⟨hb1, h⟩ := h
  refine PW.iald (n := 5) (ins_l hw_136 rfl) rfl (idx_in hb1.1 hb1.2).1 ?_
  refine PW.runs hw_136 rfl 3 (q := (7, [some (.ref 39), some (.int a)], [.int (σ 43 (Int32.toNatClampNeg a)), .ref 39], σ)) (q' := (12, [some (.ref 39), some (.int a)], [.int a, .ref 46, .int (σ 43 (Int32.toNatClampNeg a)), .ref 39], σ)) rfl ?_
  refine PW.iald (n := 14) (ins_l hw_136 rfl) rfl (idx_in hb1.1 (Int.lt_of_lt_of_le hb1.2 (by decide))).1 ?_
  refine PW.callV (b := 39) (vs := [.int (σ 43 (Int32.toNatClampNeg a)), .int (σ 46 (Int32.toNatClampNeg a))]) (rest := []) (ins_l hw_136 rfl) rfl rfl rfl (Nat.le_of_ble_eq_true rfl) (Nat.le_of_ble_eq_true rfl) (PW.mono h ?_)
  rintro _ σ1 ⟨v1, rfl, h⟩
  show PW none 136 16 [some (.ref 39), some (.int a)] [.int v1] σ1 _
  exact PW.iret (ins_l hw_136 rfl) (Or.inl rfl) ⟨_, rfl, h⟩
