/-! findFar -/
def DD (σ : St) : Nat → Int := fun a => (σ 54 a).toInt
def Fr54 (σ0 σ : St) : Prop := ∀ k j : Nat, k ≠ 54 → σ k j = σ0 k j
theorem Fr54.put {σ0 σ : St} (h : Fr54 σ0 σ) (j : Nat) (v : Int32) : Fr54 σ0 (s2 σ 54 j v) := fun k i hk => by rw [s2_ne _ _ (fun z => hk z.1)]; exact h k i hk
theorem Fr54.rf {σ : St} : Fr54 σ σ := fun _ _ _ => rfl
theorem Fr54.trans {σ0 σ1 σ2 : St} (h : Fr54 σ0 σ1) (h2 : Fr54 σ1 σ2) : Fr54 σ0 σ2 := fun k j hk => (h2 k j hk).trans (h k j hk)
theorem dd_put {σ : St} {x y : Nat} {v : Int32} (hv : v.toInt = if DD σ y + 1 < DD σ x then DD σ y + 1 else DD σ x) : DD (s2 σ 54 x v) = rx (DD σ) x y := by
  funext a
  by_cases e : a = x
  · subst e
    rw [rx_self, ← hv]
    unfold DD
    rw [s2_self]
  · rw [rx_ne e]
    unfold DD
    rw [s2_ne _ _ (fun z => e z.2)]
def Fin8 (σ : St) (j : Nat) : Prop := 0 ≤ DD σ j ∧ DD σ j ≤ FARI
theorem one_up {σ : St} {j : Nat} (h : Fin8 σ j) : (σ 54 j + 1).toInt = DD σ j + 1 := by
  have h1 := h.1
  have h2 := h.2
  unfold FARI at h2
  rw [Int32.toInt_add]
  exact bm32 (by unfold lo32; show (-2147483648 : Int) ≤ DD σ j + 1; omega) (by unfold hi32; show DD σ j + 1 ≤ (2147483647 : Int); omega)
theorem rel_vT {σ : St} {x y : Nat} (hy : Fin8 σ y) (hc : cnd .ge (σ 54 y + 1) (σ 54 x) = true) : (σ 54 x).toInt = if DD σ y + 1 < DD σ x then DD σ y + 1 else DD σ x := by
  have e := one_up hy
  simp only [cnd, decide_eq_true_eq, Int32.le_iff_toInt_le] at hc
  rw [e] at hc
  rw [if_neg (by unfold DD at hc ⊢; omega)]
  rfl
theorem rel_vF {σ : St} {x y : Nat} (hy : Fin8 σ y) (hc : cnd .ge (σ 54 y + 1) (σ 54 x) = false) : (σ 54 y + 1).toInt = if DD σ y + 1 < DD σ x then DD σ y + 1 else DD σ x := by
  have e := one_up hy
  simp only [cnd, decide_eq_false_iff_not, Int32.le_iff_toInt_le] at hc
  rw [e] at hc
  rw [e, if_pos (by unfold DD at hc ⊢; omega)]
theorem fin_rx {σ : St} {x y : Nat} {v : Int32} (hx : Fin8 σ x) (hy : Fin8 σ y) (hv : v.toInt = if DD σ y + 1 < DD σ x then DD σ y + 1 else DD σ x) {j : Nat} (hj : j = x ∨ j = y) : Fin8 (s2 σ 54 x v) j := by
  unfold Fin8
  rw [dd_put hv]
  obtain ⟨a1, a2⟩ := hx
  obtain ⟨b1, b2⟩ := hy
  by_cases e : j = x
  · subst e
    rw [rx_self]
    split <;> omega
  · rw [rx_ne e]
    rcases hj with hj | hj
    · exact absurd hj e
    · rw [hj]; exact ⟨b1, b2⟩
set_option maxRecDepth 20000 in
theorem pw_farB {b w k ll X Y : Int32} {σ : St} {Q : Option Value → St → Prop} (hX : inN X 8 = true) (hY : inN Y 8 = true) (fX : Fin8 σ X.toNatClampNeg) (fY : Fin8 σ Y.toNatClampNeg)
    (c0 : ¬ (w >>> (ll &&& 31)) &&& 1 = 1 → PW none 141 172 [some (.ref 39), some (.int b), some (.int w), some (.int k), some (.int ll), some (.int X), some (.int Y)] [] σ Q)
    (c1 : (w >>> (ll &&& 31)) &&& 1 = 1 → ∀ σ', Fr54 σ σ' → DD σ' = rx (rx (DD σ) X.toNatClampNeg Y.toNatClampNeg) Y.toNatClampNeg X.toNatClampNeg → PW none 141 172 [some (.ref 39), some (.int b), some (.int w), some (.int k), some (.int ll), some (.int X), some (.int Y)] [] σ' Q) :
    PW none 141 73 [some (.ref 39), some (.int b), some (.int w), some (.int k), some (.int ll), some (.int X), some (.int Y)] [] σ Q := by
  refine PW.runs hw_141 rfl 2 (q := (73, [some (.ref 39), some (.int b), some (.int w), some (.int k), some (.int ll), some (.int X), some (.int Y)], [], σ)) (q' := (76, [some (.ref 39), some (.int b), some (.int w), some (.int k), some (.int ll), some (.int X), some (.int Y)], [.int ll, .int w], σ)) rfl ?_
  refine PW.callS (vs := [.int w, .int ll]) (rest := []) (ins_l hw_141 rfl) rfl (Or.inl rfl) rfl (Nat.le_of_ble_eq_true rfl) (Nat.le_of_ble_eq_true rfl) ?_
  refine pw_has ?_
  refine PW.ifc (t := 172) (ins_l hw_141 rfl) rfl (fun t1 => ?_) (fun t1 => ?_)
  · exact c0 (cnd_eqT.mp t1)
  · refine PW.runs hw_141 rfl 6 (q := (82, [some (.ref 39), some (.int b), some (.int w), some (.int k), some (.int ll), some (.int X), some (.int Y)], [], σ)) (q' := (94, [some (.ref 39), some (.int b), some (.int w), some (.int k), some (.int ll), some (.int X), some (.int Y)], [.int Y, .ref 54, .int X, .ref 54], σ)) rfl ?_
    refine PW.iald (n := 8) (ins_l hw_141 rfl) rfl hY ?_
    refine PW.runs hw_141 rfl 5 (q := (95, [some (.ref 39), some (.int b), some (.int w), some (.int k), some (.int ll), some (.int X), some (.int Y)], [.int (σ 54 (Int32.toNatClampNeg Y)), .int X, .ref 54], σ)) (q' := (103, [some (.ref 39), some (.int b), some (.int w), some (.int k), some (.int ll), some (.int X), some (.int Y)], [.int X, .ref 54, .int ((σ 54 (Int32.toNatClampNeg Y)) + 1), .int X, .ref 54], σ)) rfl ?_
    refine PW.iald (n := 8) (ins_l hw_141 rfl) rfl hX ?_
    refine PW.icm (t := 119) (ins_l hw_141 rfl) rfl (fun t2 => ?_) (fun t2 => ?_)
    · refine PW.runs hw_141 rfl 3 (q := (119, [some (.ref 39), some (.int b), some (.int w), some (.int k), some (.int ll), some (.int X), some (.int Y)], [.int X, .ref 54], σ)) (q' := (125, [some (.ref 39), some (.int b), some (.int w), some (.int k), some (.int ll), some (.int X), some (.int Y)], [.int X, .ref 54, .int X, .ref 54], σ)) rfl ?_
      refine PW.iald (n := 8) (ins_l hw_141 rfl) rfl hX ?_
      refine PW.iast (n := 8) (ins_l hw_141 rfl) rfl hX ?_
      refine PW.runs hw_141 rfl 6 (q := (127, [some (.ref 39), some (.int b), some (.int w), some (.int k), some (.int ll), some (.int X), some (.int Y)], [], (s2 σ 54 (Int32.toNatClampNeg X) (σ 54 (Int32.toNatClampNeg X))))) (q' := (139, [some (.ref 39), some (.int b), some (.int w), some (.int k), some (.int ll), some (.int X), some (.int Y)], [.int X, .ref 54, .int Y, .ref 54], (s2 σ 54 (Int32.toNatClampNeg X) (σ 54 (Int32.toNatClampNeg X))))) rfl ?_
      refine PW.iald (n := 8) (ins_l hw_141 rfl) rfl hX ?_
      refine PW.runs hw_141 rfl 5 (q := (140, [some (.ref 39), some (.int b), some (.int w), some (.int k), some (.int ll), some (.int X), some (.int Y)], [.int ((s2 σ 54 (Int32.toNatClampNeg X) (σ 54 (Int32.toNatClampNeg X))) 54 (Int32.toNatClampNeg X)), .int Y, .ref 54], (s2 σ 54 (Int32.toNatClampNeg X) (σ 54 (Int32.toNatClampNeg X))))) (q' := (148, [some (.ref 39), some (.int b), some (.int w), some (.int k), some (.int ll), some (.int X), some (.int Y)], [.int Y, .ref 54, .int (((s2 σ 54 (Int32.toNatClampNeg X) (σ 54 (Int32.toNatClampNeg X))) 54 (Int32.toNatClampNeg X)) + 1), .int Y, .ref 54], (s2 σ 54 (Int32.toNatClampNeg X) (σ 54 (Int32.toNatClampNeg X))))) rfl ?_
      refine PW.iald (n := 8) (ins_l hw_141 rfl) rfl hY ?_
      refine PW.icm (t := 164) (ins_l hw_141 rfl) rfl (fun t3 => ?_) (fun t3 => ?_)
      · refine PW.runs hw_141 rfl 3 (q := (164, [some (.ref 39), some (.int b), some (.int w), some (.int k), some (.int ll), some (.int X), some (.int Y)], [.int Y, .ref 54], (s2 σ 54 (Int32.toNatClampNeg X) (σ 54 (Int32.toNatClampNeg X))))) (q' := (170, [some (.ref 39), some (.int b), some (.int w), some (.int k), some (.int ll), some (.int X), some (.int Y)], [.int Y, .ref 54, .int Y, .ref 54], (s2 σ 54 (Int32.toNatClampNeg X) (σ 54 (Int32.toNatClampNeg X))))) rfl ?_
        refine PW.iald (n := 8) (ins_l hw_141 rfl) rfl hY ?_
        refine PW.iast (n := 8) (ins_l hw_141 rfl) rfl hY ?_
        have r1 := rel_vT fY t2
        have e1 := fin_rx fX fY r1 (Or.inl rfl)
        have e2 := fin_rx fX fY r1 (Or.inr rfl)
        have r2 := rel_vT e1 t3
        refine c1 (cnd_eqF.mp t1) _ ((Fr54.rf.put _ _).put _ _) ?_
        have d2 := dd_put r2
        rw [dd_put r1] at d2
        exact d2
      · refine PW.runs hw_141 rfl 3 (q := (152, [some (.ref 39), some (.int b), some (.int w), some (.int k), some (.int ll), some (.int X), some (.int Y)], [.int Y, .ref 54], (s2 σ 54 (Int32.toNatClampNeg X) (σ 54 (Int32.toNatClampNeg X))))) (q' := (158, [some (.ref 39), some (.int b), some (.int w), some (.int k), some (.int ll), some (.int X), some (.int Y)], [.int X, .ref 54, .int Y, .ref 54], (s2 σ 54 (Int32.toNatClampNeg X) (σ 54 (Int32.toNatClampNeg X))))) rfl ?_
        refine PW.iald (n := 8) (ins_l hw_141 rfl) rfl hX ?_
        refine PW.runs hw_141 rfl 3 (q := (159, [some (.ref 39), some (.int b), some (.int w), some (.int k), some (.int ll), some (.int X), some (.int Y)], [.int ((s2 σ 54 (Int32.toNatClampNeg X) (σ 54 (Int32.toNatClampNeg X))) 54 (Int32.toNatClampNeg X)), .int Y, .ref 54], (s2 σ 54 (Int32.toNatClampNeg X) (σ 54 (Int32.toNatClampNeg X))))) (q' := (171, [some (.ref 39), some (.int b), some (.int w), some (.int k), some (.int ll), some (.int X), some (.int Y)], [.int (((s2 σ 54 (Int32.toNatClampNeg X) (σ 54 (Int32.toNatClampNeg X))) 54 (Int32.toNatClampNeg X)) + 1), .int Y, .ref 54], (s2 σ 54 (Int32.toNatClampNeg X) (σ 54 (Int32.toNatClampNeg X))))) rfl ?_
        refine PW.iast (n := 8) (ins_l hw_141 rfl) rfl hY ?_
        have r1 := rel_vT fY t2
        have e1 := fin_rx fX fY r1 (Or.inl rfl)
        have e2 := fin_rx fX fY r1 (Or.inr rfl)
        have r2 := rel_vF e1 t3
        refine c1 (cnd_eqF.mp t1) _ ((Fr54.rf.put _ _).put _ _) ?_
        have d2 := dd_put r2
        rw [dd_put r1] at d2
        exact d2
    · refine PW.runs hw_141 rfl 3 (q := (107, [some (.ref 39), some (.int b), some (.int w), some (.int k), some (.int ll), some (.int X), some (.int Y)], [.int X, .ref 54], σ)) (q' := (113, [some (.ref 39), some (.int b), some (.int w), some (.int k), some (.int ll), some (.int X), some (.int Y)], [.int Y, .ref 54, .int X, .ref 54], σ)) rfl ?_
      refine PW.iald (n := 8) (ins_l hw_141 rfl) rfl hY ?_
      refine PW.runs hw_141 rfl 3 (q := (114, [some (.ref 39), some (.int b), some (.int w), some (.int k), some (.int ll), some (.int X), some (.int Y)], [.int (σ 54 (Int32.toNatClampNeg Y)), .int X, .ref 54], σ)) (q' := (126, [some (.ref 39), some (.int b), some (.int w), some (.int k), some (.int ll), some (.int X), some (.int Y)], [.int ((σ 54 (Int32.toNatClampNeg Y)) + 1), .int X, .ref 54], σ)) rfl ?_
      refine PW.iast (n := 8) (ins_l hw_141 rfl) rfl hX ?_
      refine PW.runs hw_141 rfl 6 (q := (127, [some (.ref 39), some (.int b), some (.int w), some (.int k), some (.int ll), some (.int X), some (.int Y)], [], (s2 σ 54 (Int32.toNatClampNeg X) ((σ 54 (Int32.toNatClampNeg Y)) + 1)))) (q' := (139, [some (.ref 39), some (.int b), some (.int w), some (.int k), some (.int ll), some (.int X), some (.int Y)], [.int X, .ref 54, .int Y, .ref 54], (s2 σ 54 (Int32.toNatClampNeg X) ((σ 54 (Int32.toNatClampNeg Y)) + 1)))) rfl ?_
      refine PW.iald (n := 8) (ins_l hw_141 rfl) rfl hX ?_
      refine PW.runs hw_141 rfl 5 (q := (140, [some (.ref 39), some (.int b), some (.int w), some (.int k), some (.int ll), some (.int X), some (.int Y)], [.int ((s2 σ 54 (Int32.toNatClampNeg X) ((σ 54 (Int32.toNatClampNeg Y)) + 1)) 54 (Int32.toNatClampNeg X)), .int Y, .ref 54], (s2 σ 54 (Int32.toNatClampNeg X) ((σ 54 (Int32.toNatClampNeg Y)) + 1)))) (q' := (148, [some (.ref 39), some (.int b), some (.int w), some (.int k), some (.int ll), some (.int X), some (.int Y)], [.int Y, .ref 54, .int (((s2 σ 54 (Int32.toNatClampNeg X) ((σ 54 (Int32.toNatClampNeg Y)) + 1)) 54 (Int32.toNatClampNeg X)) + 1), .int Y, .ref 54], (s2 σ 54 (Int32.toNatClampNeg X) ((σ 54 (Int32.toNatClampNeg Y)) + 1)))) rfl ?_
      refine PW.iald (n := 8) (ins_l hw_141 rfl) rfl hY ?_
      refine PW.icm (t := 164) (ins_l hw_141 rfl) rfl (fun t4 => ?_) (fun t4 => ?_)
      · refine PW.runs hw_141 rfl 3 (q := (164, [some (.ref 39), some (.int b), some (.int w), some (.int k), some (.int ll), some (.int X), some (.int Y)], [.int Y, .ref 54], (s2 σ 54 (Int32.toNatClampNeg X) ((σ 54 (Int32.toNatClampNeg Y)) + 1)))) (q' := (170, [some (.ref 39), some (.int b), some (.int w), some (.int k), some (.int ll), some (.int X), some (.int Y)], [.int Y, .ref 54, .int Y, .ref 54], (s2 σ 54 (Int32.toNatClampNeg X) ((σ 54 (Int32.toNatClampNeg Y)) + 1)))) rfl ?_
        refine PW.iald (n := 8) (ins_l hw_141 rfl) rfl hY ?_
        refine PW.iast (n := 8) (ins_l hw_141 rfl) rfl hY ?_
        have r1 := rel_vF fY t2
        have e1 := fin_rx fX fY r1 (Or.inl rfl)
        have e2 := fin_rx fX fY r1 (Or.inr rfl)
        have r2 := rel_vT e1 t4
        refine c1 (cnd_eqF.mp t1) _ ((Fr54.rf.put _ _).put _ _) ?_
        have d2 := dd_put r2
        rw [dd_put r1] at d2
        exact d2
      · refine PW.runs hw_141 rfl 3 (q := (152, [some (.ref 39), some (.int b), some (.int w), some (.int k), some (.int ll), some (.int X), some (.int Y)], [.int Y, .ref 54], (s2 σ 54 (Int32.toNatClampNeg X) ((σ 54 (Int32.toNatClampNeg Y)) + 1)))) (q' := (158, [some (.ref 39), some (.int b), some (.int w), some (.int k), some (.int ll), some (.int X), some (.int Y)], [.int X, .ref 54, .int Y, .ref 54], (s2 σ 54 (Int32.toNatClampNeg X) ((σ 54 (Int32.toNatClampNeg Y)) + 1)))) rfl ?_
        refine PW.iald (n := 8) (ins_l hw_141 rfl) rfl hX ?_
        refine PW.runs hw_141 rfl 3 (q := (159, [some (.ref 39), some (.int b), some (.int w), some (.int k), some (.int ll), some (.int X), some (.int Y)], [.int ((s2 σ 54 (Int32.toNatClampNeg X) ((σ 54 (Int32.toNatClampNeg Y)) + 1)) 54 (Int32.toNatClampNeg X)), .int Y, .ref 54], (s2 σ 54 (Int32.toNatClampNeg X) ((σ 54 (Int32.toNatClampNeg Y)) + 1)))) (q' := (171, [some (.ref 39), some (.int b), some (.int w), some (.int k), some (.int ll), some (.int X), some (.int Y)], [.int (((s2 σ 54 (Int32.toNatClampNeg X) ((σ 54 (Int32.toNatClampNeg Y)) + 1)) 54 (Int32.toNatClampNeg X)) + 1), .int Y, .ref 54], (s2 σ 54 (Int32.toNatClampNeg X) ((σ 54 (Int32.toNatClampNeg Y)) + 1)))) rfl ?_
        refine PW.iast (n := 8) (ins_l hw_141 rfl) rfl hY ?_
        have r1 := rel_vF fY t2
        have e1 := fin_rx fX fY r1 (Or.inl rfl)
        have e2 := fin_rx fX fY r1 (Or.inr rfl)
        have r2 := rel_vF e1 t4
        refine c1 (cnd_eqF.mp t1) _ ((Fr54.rf.put _ _).put _ _) ?_
        have d2 := dd_put r2
        rw [dd_put r1] at d2
        exact d2
def inB (w : Int32) (l : Nat) : Prop := (w >>> (Int32.ofNat l &&& 31)) &&& 1 = 1
def eN (σ : St) (k l : Nat) : Nat := (σ k l).toNatClampNeg
theorem eN_t {σ : St} {k l : Nat} (h : 0 ≤ (σ k l).toInt) : ((eN σ k l : Nat) : Int) = (σ k l).toInt := by
  have e : eN σ k l = (σ k l).toInt.toNat := rfl
  rw [e]; omega
abbrev fLv2 (b w : Int32) : Lv := [some (.ref 39), some (.int b), some (.int w), none, none, none, none]
abbrev fLv (b w : Int32) (k : Int32) (t4 t5 t6 : Option Value) : Lv := [some (.ref 39), some (.int b), some (.int w), some (.int k), t4, t5, t6]
set_option maxRecDepth 20000 in
/-- a line's relaxing, and the next -/
theorem pw_far3 {σ0 : St} {b w k : Int32} {P Ln bN : Nat} {kz : Int} {D0 : Nat → Int} {Q : Option Value → St → Prop} (hI : Inv σ0) (hP : (σ0 39 0).toInt = (P : Int)) (hL : (σ0 39 1).toInt = (Ln : Int)) (hIn : In P Ln (eN σ0 40) (eN σ0 41) (inB w) kz D0)
    (cont : ∀ (σ : St) (t4 t5 t6 : Option Value), Fr54 σ0 σ → Jn P Ln bN (eN σ0 40) (eN σ0 41) (inB w) (DD σ) → Rd P (eN σ0 40) (eN σ0 41) (inB w) kz D0 Ln (DD σ) → PW none 141 178 (fLv b w k t4 t5 t6) [] σ Q) :
    ∀ (d l : Nat) (σ : St) (t5 t6 : Option Value), l + d = Ln → Fr54 σ0 σ → Jn P Ln bN (eN σ0 40) (eN σ0 41) (inB w) (DD σ) → Rd P (eN σ0 40) (eN σ0 41) (inB w) kz D0 l (DD σ) → PW none 141 46 (fLv b w k (some (.int (Int32.ofNat l))) t5 t6) [] σ Q := by
  have hLn : Ln ≤ 12 := by have := (hI.1 39 1).2; have e : (iv 39 1).2 = 12 := rfl; omega
  have hPn : P ≤ 8 := by have := (hI.1 39 0).2; have e : (iv 39 0).2 = 8 := rfl; omega
  have nn : ∀ l, 0 ≤ (σ0 40 l).toInt ∧ (σ0 40 l).toInt ≤ 7 ∧ 0 ≤ (σ0 41 l).toInt ∧ (σ0 41 l).toInt ≤ 7 := fun l => by
    have a := hI.1 40 l
    have c := hI.1 41 l
    exact ⟨a.1, a.2, c.1, c.2⟩
  have hE : ∀ l, l < Ln → eN σ0 40 l < P ∧ eN σ0 41 l < P := fun l hl => by
    have q : (σ0 40 l).toInt < (σ0 39 0).toInt ∧ (σ0 41 l).toInt < (σ0 39 0).toInt := hI.2 l (by show (l : Int) < (σ0 39 1).toInt; omega)
    have e1 := eN_t (nn l).1
    have e2 := eN_t (nn l).2.2.1
    omega
  intro d
  induction d with
  | zero =>
    intro l σ t5 t6 hl hF hJ hR
    have el : l = Ln := by omega
    rw [el] at hR ⊢
    have e1 : σ 39 1 = σ0 39 1 := hF 39 1 (by decide)
    refine PW.runs hw_141 rfl 3 (q := (46, fLv b w k (some (.int (Int32.ofNat Ln))) t5 t6, [], σ)) (q' := (52, fLv b w k (some (.int (Int32.ofNat Ln))) t5 t6, [.int (σ 39 1), .int (Int32.ofNat Ln)], σ)) rfl ?_
    refine PW.icm (t := 178) (ins_l hw_141 rfl) rfl (fun _ => cont σ _ _ _ hF hJ hR) (fun c1 => ?_)
    simp only [cnd, decide_eq_false_iff_not, Int32.le_iff_toInt_le] at c1
    rw [ofNat_t (by omega), e1] at c1
    omega
  | succ d ih =>
    intro l σ t5 t6 hl hF hJ hR
    have e1 : σ 39 1 = σ0 39 1 := hF 39 1 (by decide)
    refine PW.runs hw_141 rfl 3 (q := (46, fLv b w k (some (.int (Int32.ofNat l))) t5 t6, [], σ)) (q' := (52, fLv b w k (some (.int (Int32.ofNat l))) t5 t6, [.int (σ 39 1), .int (Int32.ofNat l)], σ)) rfl ?_
    refine PW.icm (t := 178) (ins_l hw_141 rfl) rfl (fun c1 => ?_) (fun _ => ?_)
    · simp only [cnd, decide_eq_true_eq, Int32.le_iff_toInt_le] at c1
      rw [ofNat_t (by omega), e1] at c1
      omega
    · have hix : inN (Int32.ofNat l) 12 = true := ofNat_in (by omega) (by omega)
      have ec : (Int32.ofNat l).toNatClampNeg = l := ofNat_c (by omega)
      refine PW.runs hw_141 rfl 3 (q := (55, fLv b w k (some (.int (Int32.ofNat l))) t5 t6, [], σ)) (q' := (61, fLv b w k (some (.int (Int32.ofNat l))) t5 t6, [.int (Int32.ofNat l), .ref 40], σ)) rfl ?_
      refine PW.iald (n := 12) (ins_l hw_141 rfl) rfl hix ?_
      dsimp only
      rw [ec, hF 40 l (by decide)]
      refine PW.runs hw_141 rfl 4 (q := (62, fLv b w k (some (.int (Int32.ofNat l))) t5 t6, [.int (σ0 40 l)], σ)) (q' := (70, fLv b w k (some (.int (Int32.ofNat l))) (some (.int (σ0 40 l))) t6, [.int (Int32.ofNat l), .ref 41], σ)) rfl ?_
      refine PW.iald (n := 12) (ins_l hw_141 rfl) rfl hix ?_
      dsimp only
      rw [ec, hF 41 l (by decide)]
      refine PW.runs hw_141 rfl 1 (q := (71, fLv b w k (some (.int (Int32.ofNat l))) (some (.int (σ0 40 l))) t6, [.int (σ0 41 l)], σ)) (q' := (73, fLv b w k (some (.int (Int32.ofNat l))) (some (.int (σ0 40 l))) (some (.int (σ0 41 l))), [], σ)) rfl ?_
      have n1 := nn l
      have h2 := hE l (by omega)
      have adj : inB w l → Adj Ln (eN σ0 40) (eN σ0 41) (inB w) (eN σ0 40 l) (eN σ0 41 l) := fun hb => ⟨l, by omega, hb, Or.inl ⟨rfl, rfl⟩⟩
      have adj' : inB w l → Adj Ln (eN σ0 40) (eN σ0 41) (inB w) (eN σ0 41 l) (eN σ0 40 l) := fun hb => ⟨l, by omega, hb, Or.inr ⟨rfl, rfl⟩⟩
      refine pw_farB (idx_in n1.1 (by omega)).1 (idx_in n1.2.2.1 (by omega)).1 (hJ.1 _ h2.1) (hJ.1 _ h2.2) (fun hb => ?_) (fun hb σ' hF' hD' => ?_)
      · refine PW.runs hw_141 rfl 2 (q := (172, fLv b w k (some (.int (Int32.ofNat l))) (some (.int (σ0 40 l))) (some (.int (σ0 41 l))), [], σ)) (q' := (46, fLv b w k (some (.int (Int32.ofNat l + Int32.ofInt 1))) (some (.int (σ0 40 l))) (some (.int (σ0 41 l))), [], σ)) rfl ?_
        rw [ofNat_s]
        exact ih (l + 1) σ _ _ (by omega) hF hJ (hR.skip hb)
      · refine PW.runs hw_141 rfl 2 (q := (172, fLv b w k (some (.int (Int32.ofNat l))) (some (.int (σ0 40 l))) (some (.int (σ0 41 l))), [], σ')) (q' := (46, fLv b w k (some (.int (Int32.ofNat l + Int32.ofInt 1))) (some (.int (σ0 40 l))) (some (.int (σ0 41 l))), [], σ')) rfl ?_
        rw [ofNat_s]
        refine ih (l + 1) σ' _ _ (by omega) (hF.trans hF') ?_ ?_
        · rw [hD']; exact (hJ.rlx h2.1 h2.2 (adj hb)).rlx h2.2 h2.1 (adj' hb)
        · rw [hD']; exact hR.line hE (by omega) hIn hb
set_option maxRecDepth 20000 in
/-- the rounds -/
theorem pw_far2 {σ0 : St} {b w : Int32} {P Ln bN : Nat} {Q : Option Value → St → Prop} (hI : Inv σ0) (hP : (σ0 39 0).toInt = (P : Int)) (hL : (σ0 39 1).toInt = (Ln : Int))
    (cont : ∀ (σ : St), Fr54 σ0 σ → Jn P Ln bN (eN σ0 40) (eN σ0 41) (inB w) (DD σ) → In P Ln (eN σ0 40) (eN σ0 41) (inB w) (P : Int) (DD σ) → Q none σ) :
    ∀ (d i : Nat) (σ : St) (t4 t5 t6 : Option Value), i + d = P → Fr54 σ0 σ → Jn P Ln bN (eN σ0 40) (eN σ0 41) (inB w) (DD σ) → In P Ln (eN σ0 40) (eN σ0 41) (inB w) (i : Int) (DD σ) → PW none 141 35 (fLv b w (Int32.ofNat i) t4 t5 t6) [] σ Q := by
  have hPn : P ≤ 8 := by have := (hI.1 39 0).2; have e : (iv 39 0).2 = 8 := rfl; omega
  intro d
  induction d with
  | zero =>
    intro i σ t4 t5 t6 hi hF hJ hIn
    have el : i = P := by omega
    rw [el] at hIn ⊢
    have e1 : σ 39 0 = σ0 39 0 := hF 39 0 (by decide)
    refine PW.runs hw_141 rfl 3 (q := (35, fLv b w (Int32.ofNat P) t4 t5 t6, [], σ)) (q' := (40, fLv b w (Int32.ofNat P) t4 t5 t6, [.int (σ 39 0), .int (Int32.ofNat P)], σ)) rfl ?_
    refine PW.icm (t := 184) (ins_l hw_141 rfl) rfl (fun _ => PW.vret (ins_l hw_141 rfl) rfl (cont σ hF hJ hIn)) (fun c1 => ?_)
    simp only [cnd, decide_eq_false_iff_not, Int32.le_iff_toInt_le] at c1
    rw [ofNat_t (by omega), e1] at c1
    omega
  | succ d ih =>
    intro i σ t4 t5 t6 hi hF hJ hIn
    have e1 : σ 39 0 = σ0 39 0 := hF 39 0 (by decide)
    refine PW.runs hw_141 rfl 3 (q := (35, fLv b w (Int32.ofNat i) t4 t5 t6, [], σ)) (q' := (40, fLv b w (Int32.ofNat i) t4 t5 t6, [.int (σ 39 0), .int (Int32.ofNat i)], σ)) rfl ?_
    refine PW.icm (t := 184) (ins_l hw_141 rfl) rfl (fun c1 => ?_) (fun _ => ?_)
    · simp only [cnd, decide_eq_true_eq, Int32.le_iff_toInt_le] at c1
      rw [ofNat_t (by omega), e1] at c1
      omega
    · refine PW.runs hw_141 rfl 2 (q := (43, fLv b w (Int32.ofNat i) t4 t5 t6, [], σ)) (q' := (46, fLv b w (Int32.ofNat i) (some (.int (Int32.ofNat 0))) t5 t6, [], σ)) rfl ?_
      refine pw_far3 (kz := (i : Int)) (D0 := DD σ) hI hP hL hIn (fun σ' t4' t5' t6' hF' hJ' hR' => ?_) Ln 0 σ t5 t6 (by omega) hF hJ Rd.start
      refine PW.runs hw_141 rfl 2 (q := (178, fLv b w (Int32.ofNat i) t4' t5' t6', [], σ')) (q' := (35, fLv b w (Int32.ofNat i + Int32.ofInt 1) t4' t5' t6', [], σ')) rfl ?_
      rw [ofNat_s]
      have hIn' := hR'.done
      exact ih (i + 1) σ' _ _ _ (by omega) hF' hJ' (by rw [Int.natCast_add]; exact hIn')
set_option maxRecDepth 20000 in
/-- the start -/
theorem pw_far1 {σ0 : St} {b w : Int32} {P : Nat} {Q : Option Value → St → Prop} (hP : (σ0 39 0).toInt = (P : Int)) (hPn : P ≤ 8)
    (cont : ∀ (σ : St) (k : Int32), Fr54 σ0 σ → (∀ a, a < P → σ 54 a = if Int32.ofNat a = b then 0 else 1000000) → PW none 141 33 (fLv b w k none none none) [] σ Q) :
    ∀ (d i : Nat) (σ : St), i + d = P → Fr54 σ0 σ → (∀ a, a < i → σ 54 a = if Int32.ofNat a = b then 0 else 1000000) → PW none 141 2 (fLv b w (Int32.ofNat i) none none none) [] σ Q := by
  intro d
  induction d with
  | zero =>
    intro i σ hi hF hA
    have el : i = P := by omega
    rw [el] at hA ⊢
    have e1 : σ 39 0 = σ0 39 0 := hF 39 0 (by decide)
    refine PW.runs hw_141 rfl 3 (q := (2, fLv b w (Int32.ofNat P) none none none, [], σ)) (q' := (7, fLv b w (Int32.ofNat P) none none none, [.int (σ 39 0), .int (Int32.ofNat P)], σ)) rfl ?_
    refine PW.icm (t := 33) (ins_l hw_141 rfl) rfl (fun _ => cont σ _ hF hA) (fun c1 => ?_)
    simp only [cnd, decide_eq_false_iff_not, Int32.le_iff_toInt_le] at c1
    rw [ofNat_t (by omega), e1] at c1
    omega
  | succ d ih =>
    intro i σ hi hF hA
    have e1 : σ 39 0 = σ0 39 0 := hF 39 0 (by decide)
    have ec : (Int32.ofNat i).toNatClampNeg = i := ofNat_c (by omega)
    have hix : inN (Int32.ofNat i) 8 = true := ofNat_in (by omega) (by omega)
    have put : ∀ v : Int32, v = (if Int32.ofNat i = b then 0 else 1000000) → ∀ a, a < i + 1 → s2 σ 54 i v 54 a = if Int32.ofNat a = b then 0 else 1000000 := by
      intro v hv a ha
      by_cases e : a = i
      · subst e; rw [s2_self]; exact hv
      · rw [s2_ne _ _ (fun z => e z.2)]; exact hA a (by omega)
    refine PW.runs hw_141 rfl 3 (q := (2, fLv b w (Int32.ofNat i) none none none, [], σ)) (q' := (7, fLv b w (Int32.ofNat i) none none none, [.int (σ 39 0), .int (Int32.ofNat i)], σ)) rfl ?_
    refine PW.icm (t := 33) (ins_l hw_141 rfl) rfl (fun c1 => ?_) (fun _ => ?_)
    · simp only [cnd, decide_eq_true_eq, Int32.le_iff_toInt_le] at c1
      rw [ofNat_t (by omega), e1] at c1
      omega
    · refine PW.runs hw_141 rfl 5 (q := (10, fLv b w (Int32.ofNat i) none none none, [], σ)) (q' := (17, fLv b w (Int32.ofNat i) none none none, [.int b, .int (Int32.ofNat i), .int (Int32.ofNat i), .ref 54], σ)) rfl ?_
      refine PW.icm (t := 24) (ins_l hw_141 rfl) rfl (fun c2 => ?_) (fun c2 => ?_)
      · simp only [cnd, decide_eq_true_eq] at c2
        refine PW.runs hw_141 rfl 1 (q := (24, fLv b w (Int32.ofNat i) none none none, [.int (Int32.ofNat i), .ref 54], σ)) (q' := (26, fLv b w (Int32.ofNat i) none none none, [.int 1000000, .int (Int32.ofNat i), .ref 54], σ)) rfl ?_
        refine PW.iast (n := 8) (ins_l hw_141 rfl) rfl hix ?_
        rw [ec]
        refine PW.runs hw_141 rfl 2 (q := (27, fLv b w (Int32.ofNat i) none none none, [], s2 σ 54 i 1000000)) (q' := (2, fLv b w (Int32.ofNat i + Int32.ofInt 1) none none none, [], s2 σ 54 i 1000000)) rfl ?_
        rw [ofNat_s]
        exact ih (i + 1) _ (by omega) (hF.put _ _) (put _ (by rw [if_neg c2]))
      · simp only [cnd, decide_eq_false_iff_not, Classical.not_not] at c2
        refine PW.runs hw_141 rfl 2 (q := (20, fLv b w (Int32.ofNat i) none none none, [.int (Int32.ofNat i), .ref 54], σ)) (q' := (26, fLv b w (Int32.ofNat i) none none none, [.int 0, .int (Int32.ofNat i), .ref 54], σ)) rfl ?_
        refine PW.iast (n := 8) (ins_l hw_141 rfl) rfl hix ?_
        rw [ec]
        refine PW.runs hw_141 rfl 2 (q := (27, fLv b w (Int32.ofNat i) none none none, [], s2 σ 54 i 0)) (q' := (2, fLv b w (Int32.ofNat i + Int32.ofInt 1) none none none, [], s2 σ 54 i 0)) rfl ?_
        rw [ofNat_s]
        exact ih (i + 1) _ (by omega) (hF.put _ _) (put _ (by rw [if_pos c2]))
set_option maxRecDepth 20000 in
/-- findFar -/
theorem pw_findFar {σ0 : St} {b w : Int32} {P Ln : Nat} {Q : Option Value → St → Prop} (hI : Inv σ0) (hP : (σ0 39 0).toInt = (P : Int)) (hL : (σ0 39 1).toInt = (Ln : Int)) (hb0 : 0 ≤ b.toInt) (hbP : b.toInt < (P : Int))
    (cont : ∀ (σ : St), Fr54 σ0 σ → Jn P Ln b.toInt.toNat (eN σ0 40) (eN σ0 41) (inB w) (DD σ) → In P Ln (eN σ0 40) (eN σ0 41) (inB w) (P : Int) (DD σ) → Q none σ) : PW none 141 0 (ent 141 [.ref 39, .int b, .int w]) [] σ0 Q := by
  have hPn : P ≤ 8 := by have := (hI.1 39 0).2; have e : (iv 39 0).2 = 8 := rfl; omega
  refine PW.runs hw_141 rfl 2 (q := (0, fLv2 b w, [], σ0)) (q' := (2, fLv b w (Int32.ofNat 0) none none none, [], σ0)) rfl ?_
  refine pw_far1 hP hPn (fun σ k hF hA => ?_) P 0 σ0 (by omega) Fr54.rf (fun a ha => absurd ha (Nat.not_lt_zero _))
  refine PW.runs hw_141 rfl 2 (q := (33, fLv b w k none none none, [], σ)) (q' := (35, fLv b w (Int32.ofNat 0) none none none, [], σ)) rfl ?_
  have val : ∀ a, a < P → DD σ a = if a = b.toInt.toNat then 0 else FARI := by
    intro a ha
    unfold DD
    rw [hA a ha]
    by_cases e : a = b.toInt.toNat
    · have : Int32.ofNat a = b := by rw [← Int32.toInt_inj, ofNat_t (by omega)]; omega
      rw [if_pos this, if_pos e]; rfl
    · have : ¬ Int32.ofNat a = b := fun z => e (by have := congrArg Int32.toInt z; rw [ofNat_t (by omega)] at this; omega)
      rw [if_neg this, if_neg e]; rfl
  refine pw_far2 hI hP hL cont P 0 σ none none none (by omega) hF ⟨fun v hv => ?_, ?_, fun v hv hne hf => ?_⟩ (fun x y hx hy _ hk => ?_)
  · rw [val v hv]; unfold FARI; split <;> omega
  · rw [val _ (by omega), if_pos rfl]
  · rw [val v hv, if_neg hne] at hf; omega
  · have := val x hx
    rw [this] at hk
    unfold FARI at hk
    split at hk <;> omega
