/-! findWay -/
def Fr55 (σ0 σ : St) : Prop := ∀ k j : Nat, k ≠ 55 → σ k j = σ0 k j
theorem Fr55.put {σ0 σ : St} (h : Fr55 σ0 σ) (j : Nat) (v : Int32) : Fr55 σ0 (s2 σ 55 j v) := fun k i hk => by rw [s2_ne _ _ (fun z => hk z.1)]; exact h k i hk
abbrev wLv (a b w t n : Int32) (l : Option Value) : Lv := [some (.ref 39), some (.int a), some (.int b), some (.int w), some (.int t), some (.int n), l]
def good (σ : St) (w t : Int32) (l : Nat) : Prop := inB w l ∧ 0 ≤ (acr σ (Int32.ofNat l) t).toInt ∧ σ 54 (acr σ (Int32.ofNat l) t).toNatClampNeg = σ 54 t.toNatClampNeg - 1
theorem acr_rng {σ : St} (h40 : ∀ j, 0 ≤ (σ 40 j).toInt ∧ (σ 40 j).toInt ≤ 7) (h41 : ∀ j, 0 ≤ (σ 41 j).toInt ∧ (σ 41 j).toInt ≤ 7) (l t : Int32) : (acr σ l t).toInt ≤ 7 := by
  unfold acr
  split
  · exact (h41 _).2
  · split
    · exact (h40 _).2
    · decide
set_option maxRecDepth 20000 in
/-- the line that one goes by is found -/
theorem pw_wl {σ : St} {a b w t n : Int32} {l0 : Nat} {Q : Option Value → St → Prop} (h40 : ∀ j, 0 ≤ (σ 40 j).toInt ∧ (σ 40 j).toInt ≤ 7) (h41 : ∀ j, 0 ≤ (σ 41 j).toInt ∧ (σ 41 j).toInt ≤ 7) (hl0 : l0 < 12) (hg : good σ w t l0) (ht : inN t 8 = true)
    (cont : ∀ l, l ≤ l0 → good σ w t l → PW none 142 85 (wLv a b w t n (some (.int (Int32.ofNat l)))) [] σ Q) :
    ∀ (d l : Nat), l + d = l0 → PW none 142 34 (wLv a b w t n (some (.int (Int32.ofNat l)))) [] σ Q := by
  intro d
  induction d with
  | zero =>
    intro l hl
    have el : l = l0 := by omega
    subst el
    have hix : inN (Int32.ofNat l) 12 = true := ofNat_in hl0 (by omega)
    obtain ⟨g1, g2, g3⟩ := id hg
    have hr8 : inN (acr σ (Int32.ofNat l) t) 8 = true := (idx_in g2 (by have := acr_rng h40 h41 (Int32.ofNat l) t; omega)).1
    refine PW.runs hw_142 rfl 2 (q := (34, wLv a b w t n (some (.int (Int32.ofNat l))), [], σ)) (q' := (37, wLv a b w t n (some (.int (Int32.ofNat l))), [.int (Int32.ofNat l), .int w], σ)) rfl ?_
    refine PW.callS (vs := [.int w, .int (Int32.ofNat l)]) (rest := []) (ins_l hw_142 rfl) rfl (Or.inl rfl) rfl (Nat.le_of_ble_eq_true rfl) (Nat.le_of_ble_eq_true rfl) ?_
    refine pw_has ?_
    refine PW.ifc (t := 79) (ins_l hw_142 rfl) rfl (fun c1 => absurd (show (w >>> (Int32.ofNat l &&& 31)) &&& 1 = 1 from g1) (cnd_eqT.mp c1)) (fun _ => ?_)
    refine PW.runs hw_142 rfl 3 (q := (43, wLv a b w t n (some (.int (Int32.ofNat l))), [], σ)) (q' := (48, wLv a b w t n (some (.int (Int32.ofNat l))), [.int t, .int (Int32.ofNat l), .ref 39], σ)) rfl ?_
    refine PW.callV (b := 39) (vs := [.int (Int32.ofNat l), .int t]) (rest := []) (ins_l hw_142 rfl) rfl rfl rfl (Nat.le_of_ble_eq_true rfl) (Nat.le_of_ble_eq_true rfl) ?_
    refine pw_across hix ?_
    refine PW.ifc (t := 79) (ins_l hw_142 rfl) rfl (fun c2 => ?_) (fun _ => ?_)
    · simp only [cnd, decide_eq_true_eq, Int32.lt_iff_toInt_lt] at c2
      have : (0 : Int32).toInt = 0 := rfl
      omega
    · refine PW.runs hw_142 rfl 5 (q := (54, wLv a b w t n (some (.int (Int32.ofNat l))), [], σ)) (q' := (63, wLv a b w t n (some (.int (Int32.ofNat l))), [.int t, .int (Int32.ofNat l), .ref 39, .ref 54], σ)) rfl ?_
      refine PW.callV (b := 39) (vs := [.int (Int32.ofNat l), .int t]) (rest := [.ref 54]) (ins_l hw_142 rfl) rfl rfl rfl (Nat.le_of_ble_eq_true rfl) (Nat.le_of_ble_eq_true rfl) ?_
      refine pw_across hix ?_
      refine PW.iald (n := 8) (ins_l hw_142 rfl) rfl hr8 ?_
      refine PW.runs hw_142 rfl 3 (q := (67, wLv a b w t n (some (.int (Int32.ofNat l))), [.int (σ 54 (acr σ (Int32.ofNat l) t).toNatClampNeg)], σ)) (q' := (73, wLv a b w t n (some (.int (Int32.ofNat l))), [.int t, .ref 54, .int (σ 54 (acr σ (Int32.ofNat l) t).toNatClampNeg)], σ)) rfl ?_
      refine PW.iald (n := 8) (ins_l hw_142 rfl) rfl ht ?_
      refine PW.runs hw_142 rfl 2 (q := (74, wLv a b w t n (some (.int (Int32.ofNat l))), [.int (σ 54 t.toNatClampNeg), .int (σ 54 (acr σ (Int32.ofNat l) t).toNatClampNeg)], σ)) (q' := (76, wLv a b w t n (some (.int (Int32.ofNat l))), [.int (σ 54 t.toNatClampNeg - 1), .int (σ 54 (acr σ (Int32.ofNat l) t).toNatClampNeg)], σ)) rfl ?_
      refine PW.icm (t := 85) (ins_l hw_142 rfl) rfl (fun _ => cont l (Nat.le_refl _) hg) (fun c3 => ?_)
      simp only [cnd, decide_eq_false_iff_not] at c3
      exact absurd g3 c3
  | succ d ih =>
    intro l hl
    have hix : inN (Int32.ofNat l) 12 = true := ofNat_in (by omega) (by omega)
    have next : PW none 142 79 (wLv a b w t n (some (.int (Int32.ofNat l)))) [] σ Q := by
      refine PW.runs hw_142 rfl 2 (q := (79, wLv a b w t n (some (.int (Int32.ofNat l))), [], σ)) (q' := (34, wLv a b w t n (some (.int (Int32.ofNat l + Int32.ofInt 1))), [], σ)) rfl ?_
      rw [ofNat_s]
      exact ih (l + 1) (by omega)
    refine PW.runs hw_142 rfl 2 (q := (34, wLv a b w t n (some (.int (Int32.ofNat l))), [], σ)) (q' := (37, wLv a b w t n (some (.int (Int32.ofNat l))), [.int (Int32.ofNat l), .int w], σ)) rfl ?_
    refine PW.callS (vs := [.int w, .int (Int32.ofNat l)]) (rest := []) (ins_l hw_142 rfl) rfl (Or.inl rfl) rfl (Nat.le_of_ble_eq_true rfl) (Nat.le_of_ble_eq_true rfl) ?_
    refine pw_has ?_
    refine PW.ifc (t := 79) (ins_l hw_142 rfl) rfl (fun _ => next) (fun c1 => ?_)
    refine PW.runs hw_142 rfl 3 (q := (43, wLv a b w t n (some (.int (Int32.ofNat l))), [], σ)) (q' := (48, wLv a b w t n (some (.int (Int32.ofNat l))), [.int t, .int (Int32.ofNat l), .ref 39], σ)) rfl ?_
    refine PW.callV (b := 39) (vs := [.int (Int32.ofNat l), .int t]) (rest := []) (ins_l hw_142 rfl) rfl rfl rfl (Nat.le_of_ble_eq_true rfl) (Nat.le_of_ble_eq_true rfl) ?_
    refine pw_across hix ?_
    refine PW.ifc (t := 79) (ins_l hw_142 rfl) rfl (fun _ => next) (fun c2 => ?_)
    have g2 : 0 ≤ (acr σ (Int32.ofNat l) t).toInt := by
      simp only [cnd, decide_eq_false_iff_not, Int32.lt_iff_toInt_lt] at c2
      have : (0 : Int32).toInt = 0 := rfl
      omega
    have hr8 : inN (acr σ (Int32.ofNat l) t) 8 = true := (idx_in g2 (by have := acr_rng h40 h41 (Int32.ofNat l) t; omega)).1
    refine PW.runs hw_142 rfl 5 (q := (54, wLv a b w t n (some (.int (Int32.ofNat l))), [], σ)) (q' := (63, wLv a b w t n (some (.int (Int32.ofNat l))), [.int t, .int (Int32.ofNat l), .ref 39, .ref 54], σ)) rfl ?_
    refine PW.callV (b := 39) (vs := [.int (Int32.ofNat l), .int t]) (rest := [.ref 54]) (ins_l hw_142 rfl) rfl rfl rfl (Nat.le_of_ble_eq_true rfl) (Nat.le_of_ble_eq_true rfl) ?_
    refine pw_across hix ?_
    refine PW.iald (n := 8) (ins_l hw_142 rfl) rfl hr8 ?_
    refine PW.runs hw_142 rfl 3 (q := (67, wLv a b w t n (some (.int (Int32.ofNat l))), [.int (σ 54 (acr σ (Int32.ofNat l) t).toNatClampNeg)], σ)) (q' := (73, wLv a b w t n (some (.int (Int32.ofNat l))), [.int t, .ref 54, .int (σ 54 (acr σ (Int32.ofNat l) t).toNatClampNeg)], σ)) rfl ?_
    refine PW.iald (n := 8) (ins_l hw_142 rfl) rfl ht ?_
    refine PW.runs hw_142 rfl 2 (q := (74, wLv a b w t n (some (.int (Int32.ofNat l))), [.int (σ 54 t.toNatClampNeg), .int (σ 54 (acr σ (Int32.ofNat l) t).toNatClampNeg)], σ)) (q' := (76, wLv a b w t n (some (.int (Int32.ofNat l))), [.int (σ 54 t.toNatClampNeg - 1), .int (σ 54 (acr σ (Int32.ofNat l) t).toNatClampNeg)], σ)) rfl ?_
    refine PW.icm (t := 85) (ins_l hw_142 rfl) rfl (fun c3 => ?_) (fun _ => next)
    simp only [cnd, decide_eq_true_eq] at c3
    exact cont l (by omega) ⟨(show (w >>> (Int32.ofNat l &&& 31)) &&& 1 = 1 from cnd_eqF.mp c1), g2, c3⟩
set_option maxRecDepth 20000 in
/-- the way, line by line -/
theorem pw_wo {σ1 : St} {a b w : Int32} {P Ln : Nat} {top : Int} {Q : Option Value → St → Prop} (h40 : ∀ j, 0 ≤ (σ1 40 j).toInt ∧ (σ1 40 j).toInt ≤ 7) (h41 : ∀ j, 0 ≤ (σ1 41 j).toInt ∧ (σ1 41 j).toInt ≤ 7) (hPn : P ≤ 8) (hLn : Ln ≤ 12) (hE : ∀ l, l < Ln → eN σ1 40 l < P ∧ eN σ1 41 l < P) (hb0 : 0 ≤ b.toInt)
    (hJ : Jn P Ln b.toInt.toNat (eN σ1 40) (eN σ1 41) (inB w) (DD σ1)) (hfin : ∀ v, v < P → DD σ1 v < FARI → DD σ1 v ≤ (P : Int) - 1)
    (hstep : ∀ v, v < P → v ≠ b.toInt.toNat → DD σ1 v < FARI → 1 ≤ DD σ1 v ∧ ∃ u, u < P ∧ Adj Ln (eN σ1 40) (eN σ1 41) (inB w) v u ∧ DD σ1 u = DD σ1 v - 1) (htop : top ≤ 7)
    (cont : ∀ (σ : St) (n : Int32), Fr55 σ1 σ → 0 ≤ n.toInt → n.toInt ≤ 7 → Q (some (.int n)) σ) :
    ∀ (d : Nat) (t : Int32) (n : Int32) (l6 : Option Value) (σ : St), Fr55 σ1 σ → 0 ≤ t.toInt → t.toInt < (P : Int) → DD σ1 t.toInt.toNat = (d : Int) → (d : Int) < FARI → 0 ≤ n.toInt → n.toInt + d = top → PW none 142 25 (wLv a b w t n l6) [] σ Q := by
  intro d
  induction d with
  | zero =>
    intro t n l6 σ hF ht0 htP hd _ hn0 hn
    have eb : t = b := by
      rw [← Int32.toInt_inj]
      rcases Classical.em (t.toInt.toNat = b.toInt.toNat) with e | e
      · omega
      · have := hstep t.toInt.toNat (by omega) e (by rw [hd]; unfold FARI; omega)
        omega
    refine PW.runs hw_142 rfl 2 (q := (25, wLv a b w t n l6, [], σ)) (q' := (28, wLv a b w t n l6, [.int b, .int t], σ)) rfl ?_
    refine PW.icm (t := 110) (ins_l hw_142 rfl) rfl (fun _ => ?_) (fun c1 => ?_)
    · refine PW.runs hw_142 rfl 1 (q := (110, wLv a b w t n l6, [], σ)) (q' := (112, wLv a b w t n l6, [.int n], σ)) rfl ?_
      exact PW.iret (ins_l hw_142 rfl) (Or.inl rfl) (cont σ n hF hn0 (by omega))
    · simp only [cnd, decide_eq_false_iff_not] at c1
      exact absurd eb c1
  | succ d ih =>
    intro t n l6 σ hF ht0 htP hd hdF hn0 hn
    have tc : t.toNatClampNeg = t.toInt.toNat := rfl
    refine PW.runs hw_142 rfl 2 (q := (25, wLv a b w t n l6, [], σ)) (q' := (28, wLv a b w t n l6, [.int b, .int t], σ)) rfl ?_
    refine PW.icm (t := 110) (ins_l hw_142 rfl) rfl (fun c1 => ?_) (fun c1 => ?_)
    · simp only [cnd, decide_eq_true_eq] at c1
      have := hJ.2.1
      rw [← c1, hd] at this
      omega
    · simp only [cnd, decide_eq_false_iff_not] at c1
      have hne : t.toInt.toNat ≠ b.toInt.toNat := fun e => c1 (by rw [← Int32.toInt_inj]; omega)
      obtain ⟨-, u, u1, ⟨l0, l1, l2, l3⟩, u3⟩ := hstep t.toInt.toNat (by omega) hne (by rw [hd]; exact hdF)
      have e40 : ∀ j, σ 40 j = σ1 40 j := fun j => hF 40 j (by decide)
      have e41 : ∀ j, σ 41 j = σ1 41 j := fun j => hF 41 j (by decide)
      have e54 : ∀ j, σ 54 j = σ1 54 j := fun j => hF 54 j (by decide)
      have eac : ∀ l t, acr σ l t = acr σ1 l t := fun l t => by unfold acr; rw [e40, e41]
      have ht8 : inN t 8 = true := (idx_in ht0 (by omega)).1
      have dt : (σ1 54 t.toInt.toNat).toInt = ((d + 1 : Nat) : Int) := hd
      have sub1 : ∀ v, v < P → DD σ1 v = DD σ1 t.toInt.toNat - 1 → σ1 54 v = σ1 54 t.toInt.toNat - 1 := by
        intro v hv hv2
        rw [← Int32.toInt_inj, Int32.toInt_sub]
        unfold DD at hv2
        rw [hv2]
        unfold FARI at hdF
        exact (bm32 (s := (σ1 54 t.toInt.toNat).toInt - 1) (by unfold lo32; omega) (by unfold hi32; omega)).symm
      have hg : good σ w t l0 := by
        have hlc : (Int32.ofNat l0).toNatClampNeg = l0 := ofNat_c (by omega)
        have key : acr σ1 (Int32.ofNat l0) t = σ1 40 l0 ∨ acr σ1 (Int32.ofNat l0) t = σ1 41 l0 → True := fun _ => trivial
        have eu : (acr σ1 (Int32.ofNat l0) t).toInt = (u : Int) := by
          unfold acr
          rw [hlc]
          rcases l3 with ⟨m1, m2⟩ | ⟨m1, m2⟩
          · have : σ1 40 l0 = t := by
              rw [← Int32.toInt_inj]
              have := eN_t (h40 l0).1
              omega
            rw [if_pos this]
            have := eN_t (h41 l0).1
            omega
          · have nq : ¬ σ1 40 l0 = t := fun z => by
              have z2 := eN_t (h40 l0).1
              rw [z] at z2
              have : u = t.toInt.toNat := by omega
              rw [this] at u3
              omega
            have : σ1 41 l0 = t := by
              rw [← Int32.toInt_inj]
              have := eN_t (h41 l0).1
              omega
            rw [if_neg nq, if_pos this]
            have := eN_t (h40 l0).1
            omega
        refine ⟨l2, by rw [eac, eu]; omega, ?_⟩
        rw [eac, e54, e54, tc]
        have ec : (acr σ1 (Int32.ofNat l0) t).toNatClampNeg = u := by
          have : (acr σ1 (Int32.ofNat l0) t).toNatClampNeg = (acr σ1 (Int32.ofNat l0) t).toInt.toNat := rfl
          rw [this, eu]; omega
        rw [ec]
        exact sub1 u u1 u3
      refine PW.runs hw_142 rfl 2 (q := (31, wLv a b w t n l6, [], σ)) (q' := (34, wLv a b w t n (some (.int (Int32.ofNat 0))), [], σ)) rfl ?_
      refine pw_wl (l0 := l0) (fun j => by rw [e40]; exact h40 j) (fun j => by rw [e41]; exact h41 j) (by omega) hg ht8 (fun l hl hgl => ?_) l0 0 (by omega)
      have hix : inN (Int32.ofNat l) 12 = true := ofNat_in (by omega) (by omega)
      have hn8 : inN n 8 = true := (idx_in hn0 (by omega)).1
      refine PW.runs hw_142 rfl 4 (q := (85, wLv a b w t n (some (.int (Int32.ofNat l))), [], σ)) (q' := (93, wLv a b w t n (some (.int (Int32.ofNat l))), [.int (Int32.ofNat l), .int n, .ref 55], σ)) rfl ?_
      refine PW.iast (n := 8) (ins_l hw_142 rfl) rfl hn8 ?_
      dsimp only
      generalize hσ : s2 σ 55 n.toNatClampNeg (Int32.ofNat l) = σ'
      have hF' : Fr55 σ1 σ' := by rw [← hσ]; exact hF.put _ _
      have eac' : ∀ l t, acr σ' l t = acr σ1 l t := fun l t => by unfold acr; rw [hF' 40 _ (by decide), hF' 41 _ (by decide)]
      refine PW.runs hw_142 rfl 4 (q := (94, wLv a b w t n (some (.int (Int32.ofNat l))), [], σ')) (q' := (102, wLv a b w t (n + Int32.ofInt 1) (some (.int (Int32.ofNat l))), [.int t, .int (Int32.ofNat l), .ref 39], σ')) rfl ?_
      refine PW.callV (b := 39) (vs := [.int (Int32.ofNat l), .int t]) (rest := []) (ins_l hw_142 rfl) rfl rfl rfl (Nat.le_of_ble_eq_true rfl) (Nat.le_of_ble_eq_true rfl) ?_
      refine pw_across hix ?_
      rw [eac']
      refine PW.runs hw_142 rfl 2 (q := (105, wLv a b w t (n + Int32.ofInt 1) (some (.int (Int32.ofNat l))), [.int (acr σ1 (Int32.ofNat l) t)], σ')) (q' := (25, wLv a b w (acr σ1 (Int32.ofNat l) t) (n + Int32.ofInt 1) (some (.int (Int32.ofNat l))), [], σ')) rfl ?_
      obtain ⟨q1, q2, q3⟩ := hgl
      rw [eac] at q2 q3
      rw [e54, e54, tc] at q3
      have rP : (acr σ1 (Int32.ofNat l) t).toInt < (P : Int) := by
        have hlc : (Int32.ofNat l).toNatClampNeg = l := ofNat_c (by omega)
        have el := hE l (by omega)
        have x1 := eN_t (h40 l).1
        have x2 := eN_t (h41 l).1
        unfold acr
        rw [hlc]
        split
        · omega
        · split
          · omega
          · show (-1 : Int) < (P : Int); omega
      have n1 : (n + Int32.ofInt 1).toInt = n.toInt + 1 := by
        rw [Int32.toInt_add]
        exact bm32 (by unfold lo32; show (-2147483648 : Int) ≤ n.toInt + 1; omega) (by unfold hi32; show n.toInt + 1 ≤ (2147483647 : Int); omega)
      have q4 : DD σ1 (acr σ1 (Int32.ofNat l) t).toInt.toNat = (d : Int) := by
        have ec : (acr σ1 (Int32.ofNat l) t).toNatClampNeg = (acr σ1 (Int32.ofNat l) t).toInt.toNat := rfl
        unfold DD
        rw [← ec, q3, Int32.toInt_sub, dt]
        unfold FARI at hdF
        have o1 : (1 : Int32).toInt = 1 := rfl
        rw [o1, bm32 (by unfold lo32; omega) (by unfold hi32; omega)]
        omega
      exact ih _ _ _ σ' hF' q2 rP q4 (by omega) (by rw [n1]; omega) (by rw [n1]; omega)
set_option maxRecDepth 20000 in
/-- findWay -/
theorem pw_findWay {σ0 : St} {a b w : Int32} {Q : Option Value → St → Prop} (hI : Inv σ0) (ha0 : 0 ≤ a.toInt) (haP : a.toInt < (σ0 39 0).toInt) (hb0 : 0 ≤ b.toInt) (hbP : b.toInt < (σ0 39 0).toInt)
    (cont : ∀ (σ : St) (r : Int32), (∀ k j : Nat, k ≠ 54 → k ≠ 55 → σ k j = σ0 k j) → -1 ≤ r.toInt → r.toInt ≤ 7 → Q (some (.int r)) σ) : PW none 142 0 (ent 142 [.ref 39, .int a, .int b, .int w]) [] σ0 Q := by
  obtain ⟨P, hP⟩ : ∃ P : Nat, (σ0 39 0).toInt = (P : Int) := ⟨(σ0 39 0).toInt.toNat, by omega⟩
  have l0 := (hI.1 39 1).1
  have e0 : (iv 39 1).1 = 0 := rfl
  obtain ⟨Ln, hL⟩ : ∃ Ln : Nat, (σ0 39 1).toInt = (Ln : Int) := ⟨(σ0 39 1).toInt.toNat, by omega⟩
  have hLn : Ln ≤ 12 := by have := (hI.1 39 1).2; have e : (iv 39 1).2 = 12 := rfl; omega
  have hPn : P ≤ 8 := by have := (hI.1 39 0).2; have e : (iv 39 0).2 = 8 := rfl; omega
  refine PW.runs hw_142 rfl 3 (q := (0, [some (.ref 39), some (.int a), some (.int b), some (.int w), none, none, none], [], σ0)) (q' := (3, [some (.ref 39), some (.int a), some (.int b), some (.int w), none, none, none], [.int w, .int b, .ref 39], σ0)) rfl ?_
  refine PW.callV (b := 39) (vs := [.int b, .int w]) (rest := []) (ins_l hw_142 rfl) rfl rfl rfl (Nat.le_of_ble_eq_true rfl) (Nat.le_of_ble_eq_true rfl) ?_
  refine pw_findFar hI hP hL hb0 (by omega) (fun σ hF hJ hIn => ?_)
  have e40 : ∀ j, σ 40 j = σ0 40 j := fun j => hF 40 j (by decide)
  have e41 : ∀ j, σ 41 j = σ0 41 j := fun j => hF 41 j (by decide)
  have x40 : eN σ 40 = eN σ0 40 := by funext j; unfold eN; rw [e40]
  have x41 : eN σ 41 = eN σ0 41 := by funext j; unfold eN; rw [e41]
  have h40 : ∀ j, 0 ≤ (σ 40 j).toInt ∧ (σ 40 j).toInt ≤ 7 := fun j => by rw [e40]; exact hI.1 40 j
  have h41 : ∀ j, 0 ≤ (σ 41 j).toInt ∧ (σ 41 j).toInt ≤ 7 := fun j => by rw [e41]; exact hI.1 41 j
  have ha8 : inN a 8 = true := (idx_in ha0 (by omega)).1
  have ac : a.toNatClampNeg = a.toInt.toNat := rfl
  obtain ⟨f1, f2⟩ := far_good hJ hIn (by unfold FARI; omega)
  refine PW.runs hw_142 rfl 3 (q := (6, [some (.ref 39), some (.int a), some (.int b), some (.int w), none, none, none], [], σ)) (q' := (11, [some (.ref 39), some (.int a), some (.int b), some (.int w), none, none, none], [.int a, .ref 54], σ)) rfl ?_
  refine PW.iald (n := 8) (ins_l hw_142 rfl) rfl ha8 ?_
  refine PW.runs hw_142 rfl 1 (q := (12, [some (.ref 39), some (.int a), some (.int b), some (.int w), none, none, none], [.int (σ 54 a.toNatClampNeg)], σ)) (q' := (14, [some (.ref 39), some (.int a), some (.int b), some (.int w), none, none, none], [.int 1000000, .int (σ 54 a.toNatClampNeg)], σ)) rfl ?_
  refine PW.icm (t := 19) (ins_l hw_142 rfl) rfl (fun c1 => ?_) (fun _ => ?_)
  · simp only [cnd, decide_eq_true_eq, Int32.lt_iff_toInt_lt] at c1
    have hfa : DD σ a.toInt.toNat < FARI := by rw [ac] at c1; exact c1
    have g0 := (hJ.1 a.toInt.toNat (by omega)).1
    have g1 := f1 a.toInt.toNat (by omega) hfa
    refine PW.runs hw_142 rfl 4 (q := (19, [some (.ref 39), some (.int a), some (.int b), some (.int w), none, none, none], [], σ)) (q' := (25, wLv a b w a 0 none, [], σ)) rfl ?_
    refine pw_wo (σ1 := σ) (P := P) (Ln := Ln) (top := DD σ a.toInt.toNat) h40 h41 hPn hLn (fun l hl => ?_) hb0 (by rw [x40, x41]; exact hJ) f1 (by rw [x40, x41]; exact f2) (by omega) (fun σ' n hF' hn0 hn7 => cont σ' n (fun k j k1 k2 => (hF' k j k2).trans (hF k j k1)) (by omega) hn7) (DD σ a.toInt.toNat).toNat a 0 none σ (fun _ _ _ => rfl) ha0 (by omega) (by omega) (by omega) (by decide) (by show (0 : Int) + _ = _; omega)
    rw [x40, x41]
    have q : (σ0 40 l).toInt < (σ0 39 0).toInt ∧ (σ0 41 l).toInt < (σ0 39 0).toInt := hI.2 l (by show (l : Int) < (σ0 39 1).toInt; omega)
    have y1 := eN_t (σ := σ0) (k := 40) (l := l) (hI.1 40 l).1
    have y2 := eN_t (σ := σ0) (k := 41) (l := l) (hI.1 41 l).1
    omega
  · refine PW.runs hw_142 rfl 1 (q := (17, [some (.ref 39), some (.int a), some (.int b), some (.int w), none, none, none], [], σ)) (q' := (18, [some (.ref 39), some (.int a), some (.int b), some (.int w), none, none, none], [.int (-1)], σ)) rfl ?_
    exact PW.iret (ins_l hw_142 rfl) (Or.inl rfl) (cont σ (-1) (fun k j k1 _ => hF k j k1) (by decide) (by decide))
