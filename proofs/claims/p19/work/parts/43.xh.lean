/-! days, by the reference; day, drift -/
theorem q_167 {L M I : Nat} {σ : St} {V : Nat → Int32} {K : St → Prop} (hL1 : 1 ≤ L) (hL : L ≤ 12) (hM : M ≤ 5) (hI4 : I ≤ 4) (e1 : σ 39 1 = Int32.ofNat L) (e2 : σ 39 6 = Int32.ofNat M) (e3 : σ 39 9 = Int32.ofNat I) (hI : Inv σ) (hV : Vm M σ V) (hK : ∀ σ', Inv σ' → (∀ k j, ¬ k = 46 → ¬ (k = 39 ∧ j = 12) → σ' k j = σ k j) → Vm M σ' (chV L M I V) → K σ') : CV 167 [.ref 39] σ K := by
  have v4 := hV.2
  have nn : 0 ≤ (σ 39 12).toInt := (hI.1 39 12).1
  refine w_167 (s_166 (n := 5) nn (by omega) (by omega) ?_)
  rw [v4]
  have a1 := Vm_4 hV (sd (V 4))
  have I1 : Inv (s2 σ 39 12 (sd (V 4))) := Inv12 hI (sd_nn _)
  show (if dn (sd (V 4)) 5 = 0 then _ else (if dn (sd (V 4)) 5 = 1 then _ else (if dn (sd (V 4)) 5 = 2 then _ else _)))
  have done1 : ∀ W, W = vu V 4 (sd (V 4)) → W = chV L M I V → K (s2 σ 39 12 (sd (V 4))) := fun W h1 h2 => by
    refine hK _ I1 (fun k j _ h => s2_ne _ _ h) ?_
    rw [← h2, h1]
    exact a1
  by_cases k0 : dn (sd (V 4)) 5 = 0
  · rw [if_pos k0]
    show CI 166 [.ref 39, .int (σ 39 1)] _ _
    rw [e1]
    refine s_166 (sd_nn _) hL1 hL ?_
    have a2 := Vm_c (Vm_4 a1 (sd (sd (V 4)))) (Or.inl rfl : D0 M 0) rfl (V 0 ^^^ shl1 (dn (sd (sd (V 4))) (Int32.ofNat L)))
    have v0 : σ 46 10 = V 0 := hV.1 0 (Or.inl rfl)
    have g : K (s2 (s2 (s2 σ 39 12 (sd (V 4))) 39 12 (sd (sd (V 4)))) 46 10 (V 0 ^^^ shl1 (dn (sd (sd (V 4))) (Int32.ofNat L)))) := by
      refine hK _ (InvF (Inv12 I1 (sd_nn (sd (V 4)))) (fun k j h => s2_ne _ _ (by omega))) (fun k j h h' => ?_) ?_
      · rw [s2_ne _ _ (by omega), s2_ne _ _ (by omega), s2_ne _ _ (by omega)]
      · unfold chV; rw [if_pos k0]; exact a2
    rw [← v0] at g
    exact g
  · rw [if_neg k0]
    by_cases k1 : dn (sd (V 4)) 5 = 1
    · rw [if_pos k1]
      show (if σ 39 6 ≤ 0 then _ else CI 166 [.ref 39, .int (σ 39 6)] _ _)
      rw [e2]
      by_cases m0 : M = 0
      · rw [if_pos ((le0 (by omega)).mpr m0)]
        have := done1 _ rfl (by unfold chV; rw [if_neg k0, if_pos k1, if_pos m0])
        split
        · exact this
        · exact this
      · rw [if_neg (fun z => m0 ((le0 (by omega)).mp z))]
        refine s_166 (sd_nn _) (by omega) (by omega) ?_
        have rm : inR M (dn (sd (sd (V 4))) (Int32.ofNat M)) := dn_in (sd_nn _) (by omega) (by omega)
        obtain ⟨m, hm, em, ec⟩ := inR_n rm
        refine ⟨by unfold inR at rm; show 0 ≤ (dn (sd (sd (V 4))) (Int32.ofNat M)).toInt ∧ (dn (sd (sd (V 4))) (Int32.ofNat M)).toInt < 14; omega, ?_⟩
        show CI 166 [.ref 39, .int (σ 39 1)] _ _
        rw [e1]
        refine s_166 (sd_nn _) hL1 hL ?_
        have dm : D0 M (5 + m) := Or.inr (Or.inr ⟨by omega, by omega, by omega⟩)
        have vm : σ 46 m = V (5 + m) := by
          have := hV.1 (5 + m) dm
          rw [mu5] at this
          exact this
        have a2 := Vm_c (Vm_4 (Vm_4 a1 (sd (sd (V 4)))) (sd (sd (sd (V 4))))) dm mu5 (V (5 + m) ^^^ shl1 (dn (sd (sd (sd (V 4)))) (Int32.ofNat L)))
        have g : K (s2 (s2 (s2 (s2 σ 39 12 (sd (V 4))) 39 12 (sd (sd (V 4)))) 39 12 (sd (sd (sd (V 4))))) 46 m (V (5 + m) ^^^ shl1 (dn (sd (sd (sd (V 4)))) (Int32.ofNat L)))) := by
          refine hK _ (InvF (Inv12 (Inv12 I1 (sd_nn (sd (V 4)))) (sd_nn (sd (sd (V 4))))) (fun k j h => s2_ne _ _ (by omega))) (fun k j h h' => ?_) ?_
          · rw [s2_ne _ _ (by omega), s2_ne _ _ (by omega), s2_ne _ _ (by omega), s2_ne _ _ (by omega)]
          · unfold chV; rw [if_neg k0, if_pos k1, if_neg m0, ec]; exact a2
        rw [← vm] at g
        show K (s2 _ 46 (dn (sd (sd (V 4))) (Int32.ofNat M)).toNatClampNeg ((σ 46 (dn (sd (sd (V 4))) (Int32.ofNat M)).toNatClampNeg) ^^^ _))
        rw [ec]
        exact g
    · rw [if_neg k1]
      by_cases k2 : dn (sd (V 4)) 5 = 2
      · rw [if_pos k2]
        show (if σ 39 6 ≤ 0 then _ else (if σ 39 9 ≤ 0 then _ else CI 166 [.ref 39, .int (σ 39 9)] _ _))
        rw [e2, e3]
        by_cases m0 : M = 0
        · rw [if_pos ((le0 (by omega)).mpr m0)]
          exact done1 _ rfl (by unfold chV; rw [if_neg k0, if_neg k1, if_pos k2, if_pos m0])
        · rw [if_neg (fun z => m0 ((le0 (by omega)).mp z))]
          by_cases i0 : I = 0
          · rw [if_pos ((le0 (by omega)).mpr i0)]
            exact done1 _ rfl (by unfold chV; rw [if_neg k0, if_neg k1, if_pos k2, if_neg m0, if_pos i0])
          · rw [if_neg (fun z => i0 ((le0 (by omega)).mp z))]
            refine s_166 (sd_nn _) (by omega) (by omega) ?_
            show CI 166 [.ref 39, .int (σ 39 6)] _ _
            rw [e2]
            refine s_166 (sd_nn _) (by omega) (by omega) ?_
            have ri : inR I (dn (sd (sd (V 4))) (Int32.ofNat I)) := dn_in (sd_nn _) (by omega) (by omega)
            have rm : inR M (dn (sd (sd (sd (V 4)))) (Int32.ofNat M)) := dn_in (sd_nn _) (by omega) (by omega)
            have I3 := Inv12 (Inv12 I1 (sd_nn (sd (V 4)))) (sd_nn (sd (sd (V 4))))
            refine CI.pur (c := con_104) sat_104 rfl rfl (by decide) rfl rfl (by exact ⟨rfl, aR ri (by omega), aR rm (by omega), trivial⟩) I3 fun v4 => ?_
            refine o_158 hM rm fun σ5 f5 => hK _ (InvF I3 (fun k j h => f5 k j (by omega))) (fun k j h h' => ?_) ?_
            · rw [f5 k j (by omega), s2_ne _ _ (by omega), s2_ne _ _ (by omega), s2_ne _ _ (by omega)]
            · unfold chV; rw [if_neg k0, if_neg k1, if_pos k2, if_neg m0, if_neg i0]
              exact Vm_ex (Vm_4 (Vm_4 a1 (sd (sd (V 4)))) (sd (sd (sd (V 4))))) (fun j h => f5 46 j (by omega)) (f5 39 12 (by omega))
      · rw [if_neg k2]
        exact done1 _ rfl (by unfold chV; rw [if_neg k0, if_neg k1, if_neg k2])
/-! refusals of days -/
def dP (N : Nat) (d a : Int32) : Prop := (1 ≤ a ∧ a ≤ 60) ∧ ¬ N = 0 ∧ d ≤ 9000
theorem s_102 {σ : St} {N : Nat} {a : Int32} {K : Int32 → St → Prop} (h : σ 11 0 = Int32.ofNat N) (hN : N ≤ 8) (k0 : dP N (σ 19 1) a → K 0 σ) (k1 : ¬ dP N (σ 19 1) a → ∀ v, ¬ v = 0 → K v σ) : CI 102 [.ref 0, .int a] σ K := by
  refine w_102 (s_91 (ite10 (fun c1 => ?_) (fun c1 => k1 (fun z => c1 z.1) _ (by decide))))
  by_cases c2 : N = 0
  · rw [if_pos (by rw [h, c2]; rfl)]; exact k1 (fun z => z.2.1 c2) _ (by decide)
  · rw [if_neg (by rw [h]; exact fun z => c2 ((of_z (by omega)).mp z))]
    by_cases c3 : σ 19 1 ≤ 9000
    · rw [if_pos c3]; exact k0 ⟨c1, c2, c3⟩
    · rw [if_neg c3]; exact k1 (fun z => c3 z.2.2) _ (by decide)
theorem s_164 {σ : St} {N : Nat} {a : Int32} {K : Int32 → St → Prop} (h : σ 39 0 = Int32.ofNat N) (hN : N ≤ 8) (k0 : dP N (σ 46 13) a → K 0 σ) (k1 : ¬ dP N (σ 46 13) a → ∀ v, ¬ v = 0 → K v σ) : CI 164 [.ref 39, .int a] σ K := by
  refine w_164 (s_109 (b := 1) (c := 60) (ite10 (fun c1 => ?_) (fun c1 => k1 (fun z => c1 z.1) _ (by decide))))
  by_cases c2 : N = 0
  · rw [if_pos (by rw [h, c2]; rfl)]; exact k1 (fun z => z.2.1 c2) _ (by decide)
  · rw [if_neg (by rw [h]; exact fun z => c2 ((of_z (by omega)).mp z))]
    by_cases c3 : σ 46 13 ≤ 9000
    · rw [if_pos c3]; exact k0 ⟨c1, c2, c3⟩
    · rw [if_neg c3]; exact k1 (fun z => c3 z.2.2) _ (by decide)
theorem dP_n {N : Nat} {d a : Int32} (h : dP N d a) : ∃ A : Nat, A ≤ 60 ∧ a = Int32.ofNat A := by
  obtain ⟨⟨h1, h2⟩, -⟩ := h
  have l1 : (1 : Int32).toInt = 1 := rfl
  have l60 : (60 : Int32).toInt = 60 := rfl
  rw [Int32.le_iff_toInt_le, l1] at h1
  rw [Int32.le_iff_toInt_le, l60] at h2
  exact ⟨a.toInt.toNat, by omega, (of_ti (by omega)).symm⟩
/-! the rounds -/
theorem d_66 {M A : Nat} {τ : St} {K : Int32 → St → Prop} (hM : M ≤ 5) (hA : A ≤ 60) (e2 : τ 11 2 = Int32.ofNat M) {x2 : Int32} : ∀ (d i : Nat) {σ : St} {V : Nat → Int32}, i + d = A → Inv σ → (∀ k j, ¬ (19 ≤ k ∧ k ≤ 21) → σ k j = τ k j) → Vc M σ V → (∀ v σ', (∀ k j, ¬ (19 ≤ k ∧ k ≤ 21) → σ' k j = τ k j) → Vc M σ' (itV dyV d V) → K v σ') → PI 66 25 [some (.ref 0), some (.int (Int32.ofNat A)), some (.int x2), some (.int (Int32.ofNat i))] [] σ K := by
  intro d
  induction d with
  | zero =>
    intro i σ V hi hI hf hV hK
    refine w_66_25 ?_
    rw [if_pos (by rw [Int32.le_iff_toInt_le, ti_of (by omega), ti_of (by omega)]; omega)]
    exact CI.pur (c := con_44) sat_44 rfl rfl (by decide) rfl rfl (by exact ⟨rfl, trivial⟩) hI fun v => hK v σ hf hV
  | succ d ih =>
    intro i σ V hi hI hf hV hK
    refine w_66_25 ?_
    rw [if_neg (by rw [Int32.le_iff_toInt_le, ti_of (by omega), ti_of (by omega)]; omega)]
    refine q_103 hM ((hf 11 2 (by omega)).trans e2) hI hV fun σ1 I1 f1 V1 => ?_
    rw [of_s]
    exact ih (i + 1) (by omega) I1 (fun k j h => (f1 k j h).trans (hf k j h)) V1 hK
theorem d_165 {M A : Nat} {τ : St} {K : Int32 → St → Prop} (hM : M ≤ 5) (hA : A ≤ 60) (e2 : τ 39 6 = Int32.ofNat M) {x2 : Int32} : ∀ (d i : Nat) {σ : St} {V : Nat → Int32}, i + d = A → Inv σ → (∀ k j, ¬ k = 46 → ¬ (k = 39 ∧ j = 12) → σ k j = τ k j) → Vm M σ V → (∀ v σ', (∀ k j, ¬ k = 46 → ¬ (k = 39 ∧ j = 12) → σ' k j = τ k j) → Vm M σ' (itV dyV d V) → K v σ') → PI 165 18 [some (.ref 39), some (.int (Int32.ofNat A)), some (.int x2), some (.int (Int32.ofNat i))] [] σ K := by
  intro d
  induction d with
  | zero =>
    intro i σ V hi hI hf hV hK
    refine w_165_18 ?_
    rw [if_pos (by rw [Int32.le_iff_toInt_le, ti_of (by omega), ti_of (by omega)]; omega)]
    exact CI.pur (c := con_105) sat_105 rfl rfl (by decide) rfl rfl (by exact ⟨rfl, trivial⟩) hI fun v => hK v σ hf hV
  | succ d ih =>
    intro i σ V hi hI hf hV hK
    refine w_165_18 ?_
    rw [if_neg (by rw [Int32.le_iff_toInt_le, ti_of (by omega), ti_of (by omega)]; omega)]
    refine q_163 hM ((hf 39 6 (by omega) (by omega)).trans e2) hI hV fun σ1 I1 f1 V1 => ?_
    rw [of_s]
    exact ih (i + 1) (by omega) I1 (fun k j h h' => (f1 k j h).trans (hf k j h h')) V1 hK
def drV (L M I : Nat) (V : Nat → Int32) : Nat → Int32 := if L = 0 then dyV V else dyV (chV L M I V)
theorem d_67 {L M I A : Nat} {τ : St} {K : Int32 → St → Prop} (hL : L ≤ 12) (hM : M ≤ 5) (hI4 : I ≤ 4) (hA : A ≤ 60) (e1 : τ 11 1 = Int32.ofNat L) (e2 : τ 11 2 = Int32.ofNat M) (e3 : τ 11 3 = Int32.ofNat I) {x2 : Int32} : ∀ (d i : Nat) {σ : St} {V : Nat → Int32}, i + d = A → Inv σ → (∀ k j, ¬ (19 ≤ k ∧ k ≤ 21) → σ k j = τ k j) → Vc M σ V → (∀ v σ', (∀ k j, ¬ (19 ≤ k ∧ k ≤ 21) → σ' k j = τ k j) → Vc M σ' (itV (drV L M I) d V) → K v σ') → PI 67 25 [some (.ref 0), some (.int (Int32.ofNat A)), some (.int x2), some (.int (Int32.ofNat i))] [] σ K := by
  intro d
  induction d with
  | zero =>
    intro i σ V hi hI hf hV hK
    refine w_67_25 ?_
    rw [if_pos (by rw [Int32.le_iff_toInt_le, ti_of (by omega), ti_of (by omega)]; omega)]
    exact CI.pur (c := con_44) sat_44 rfl rfl (by decide) rfl rfl (by exact ⟨rfl, trivial⟩) hI fun v => hK v σ hf hV
  | succ d ih =>
    intro i σ V hi hI hf hV hK
    refine w_67_25 ?_
    have g1 := (hf 11 1 (by omega)).trans e1
    have g2 := (hf 11 2 (by omega)).trans e2
    have g3 := (hf 11 3 (by omega)).trans e3
    rw [if_neg (by rw [Int32.le_iff_toInt_le, ti_of (by omega), ti_of (by omega)]; omega), g1]
    by_cases l0 : L = 0
    · rw [if_pos ((le0 hL).mpr l0)]
      refine q_103 hM g2 hI hV fun σ1 I1 f1 V1 => ?_
      rw [of_s]
      have ed : drV L M I V = dyV V := by unfold drV; rw [if_pos l0]
      exact ih (i + 1) (by omega) I1 (fun k j h => (f1 k j h).trans (hf k j h)) (by rw [ed]; exact V1) hK
    · rw [if_neg (fun z => l0 ((le0 hL).mp z))]
      refine q_104 (by omega) hL hM hI4 g1 g2 g3 hI hV fun σ0 I0 f0 V0 => ?_
      refine q_103 hM ((f0 11 2 (by omega)).trans g2) I0 V0 fun σ1 I1 f1 V1 => ?_
      rw [of_s]
      have ed : drV L M I V = dyV (chV L M I V) := by unfold drV; rw [if_neg l0]
      exact ih (i + 1) (by omega) I1 (fun k j h => ((f1 k j h).trans (f0 k j h)).trans (hf k j h)) (by rw [ed]; exact V1) hK
theorem d_168 {L M I A : Nat} {τ : St} {K : Int32 → St → Prop} (hL : L ≤ 12) (hM : M ≤ 5) (hI4 : I ≤ 4) (hA : A ≤ 60) (e1 : τ 39 1 = Int32.ofNat L) (e2 : τ 39 6 = Int32.ofNat M) (e3 : τ 39 9 = Int32.ofNat I) {x2 : Int32} : ∀ (d i : Nat) {σ : St} {V : Nat → Int32}, i + d = A → Inv σ → (∀ k j, ¬ k = 46 → ¬ (k = 39 ∧ j = 12) → σ k j = τ k j) → Vm M σ V → (∀ v σ', (∀ k j, ¬ k = 46 → ¬ (k = 39 ∧ j = 12) → σ' k j = τ k j) → Vm M σ' (itV (drV L M I) d V) → K v σ') → PI 168 18 [some (.ref 39), some (.int (Int32.ofNat A)), some (.int x2), some (.int (Int32.ofNat i))] [] σ K := by
  intro d
  induction d with
  | zero =>
    intro i σ V hi hI hf hV hK
    refine w_168_18 ?_
    rw [if_pos (by rw [Int32.le_iff_toInt_le, ti_of (by omega), ti_of (by omega)]; omega)]
    exact CI.pur (c := con_105) sat_105 rfl rfl (by decide) rfl rfl (by exact ⟨rfl, trivial⟩) hI fun v => hK v σ hf hV
  | succ d ih =>
    intro i σ V hi hI hf hV hK
    refine w_168_18 ?_
    have g1 := (hf 39 1 (by omega) (by omega)).trans e1
    have g2 := (hf 39 6 (by omega) (by omega)).trans e2
    have g3 := (hf 39 9 (by omega) (by omega)).trans e3
    rw [if_neg (by rw [Int32.le_iff_toInt_le, ti_of (by omega), ti_of (by omega)]; omega), g1]
    by_cases l0 : L = 0
    · rw [if_pos ((le0 hL).mpr l0)]
      refine q_163 hM g2 hI hV fun σ1 I1 f1 V1 => ?_
      rw [of_s]
      have ed : drV L M I V = dyV V := by unfold drV; rw [if_pos l0]
      exact ih (i + 1) (by omega) I1 (fun k j h h' => (f1 k j h).trans (hf k j h h')) (by rw [ed]; exact V1) hK
    · rw [if_neg (fun z => l0 ((le0 hL).mp z))]
      refine q_167 (by omega) hL hM hI4 g1 g2 g3 hI hV fun σ0 I0 f0 V0 => ?_
      refine q_163 hM ((f0 39 6 (by omega) (by omega)).trans g2) I0 V0 fun σ1 I1 f1 V1 => ?_
      rw [of_s]
      have ed : drV L M I V = dyV (chV L M I V) := by unfold drV; rw [if_neg l0]
      exact ih (i + 1) (by omega) I1 (fun k j h h' => ((f1 k j h).trans (f0 k j h h')).trans (hf k j h h')) (by rw [ed]; exact V1) hK
theorem CO_V {M x n : Nat} {σ σ1 σ' : St} {V : Nat → Int32} (r : RC x n σ σ1) (f : ∀ k j, ¬ k = 23 → ¬ (k = 24 ∧ (j = 1 ∨ j = 2)) → σ1 k j = σ k j) (g : ∀ k j, ¬ (19 ≤ k ∧ k ≤ 21) → σ' k j = σ1 k j) (h : Vc M σ' V) : CO D0 M x n σ V σ' :=
  ⟨RC_ex r (fun j => g 23 j (by omega)) (fun j => g 24 j (by omega)), fun k j h1 h2 h3 _ => (g k j h1).trans (f k j h2 (by omega)), h.1, h.2⟩
theorem MO_V {M n : Nat} {σ1 σ2 σ' : St} {V : Nat → Int32} (r : RMm n σ1 σ2) (f : ∀ k j, ¬ k = 56 → ¬ (k = 39 ∧ j = 32) → σ2 k j = σ1 k j) (g : ∀ k j, ¬ k = 46 → ¬ (k = 39 ∧ j = 12) → σ' k j = σ2 k j) (h : Vm M σ' V) : MO D0 M n σ1 V σ' :=
  ⟨⟨(g 39 32 (by omega) (by omega)).trans r.1, fun j hj => (g 56 j (by omega) (by omega)).trans (r.2 j hj)⟩, fun k j h1 h2 _ _ h5 => (g k j h1 (by omega)).trans (f k j h2 (by omega)), h.1, h.2⟩
theorem ag_day0 {σ : St} {a : Int32} (hJ : J2 D0 σ) (j1 : CI 66 [.ref 0, .int a] σ (fun _ σ' => J σ')) (j2 : ∀ σ1, J σ1 → CI 165 [.ref 39, .int a] σ1 (fun _ σ' => J σ')) {K : Int32 → Int32 → St → Prop} (hK : ∀ v1 v2 σ', J2 D0 σ' → K v1 v2 σ') : CI 66 [.ref 0, .int a] σ (fun v1 σ1 => CI 165 [.ref 39, .int a] σ1 (fun v2 σ2 => K v1 v2 σ2)) := by
  refine ag_op HD0 hJ j1 j2 (fun P x n hx hm hb hc hN hs => ⟨dP (P.1 0) (σ 19 1) a, itV dyV a.toNatClampNeg (cls σ), ?_, fun σ1 J1 e39 => ?_⟩) hK
  · refine w_66 (s_102 hx.2.1 hx.1.1 (fun p => ?_) (fun p v hv => ?_))
    · rw [if_pos rfl]
      refine s_9I hJ.1.1 hb fun σ1 I1 r1 f1 => ?_
      obtain ⟨A, hA, rfl⟩ := dP_n p
      rw [tc_of (by omega)]
      exact d_66 hb.1 hA ((f1 11 2 (by omega) (by omega)).trans hb.2.2.2.2.1) A 0 (V := cls σ) (by omega) I1 (fun _ _ _ => rfl) ⟨fun c _ => cls_ex (fun k j h1 h2 => f1 k j (by omega) (by omega)) c, f1 19 4 (by omega) (by omega)⟩ (fun v σ' f V' => Or.inr ⟨p, CO_V r1 f1 f V'⟩)
    · rw [if_neg hv]
      exact Or.inl ⟨p, fun _ _ _ => rfl⟩
  · have hc1 := C2_39 hc e39
    have ed : σ1 46 13 = σ 19 1 := (e39 46 13 (by omega)).trans (hN 1 (Or.inr (Or.inl rfl))).symm
    refine w_165 (s_164 ((e39 39 0 (by omega)).trans hm.1) hx.1.1 (fun p => ?_) (fun p v hv => ?_))
    · rw [ed] at p
      rw [if_pos rfl]
      refine s_153I J1.1 hc1 fun σ2 I2 r2 f2 => ?_
      obtain ⟨A, hA, rfl⟩ := dP_n p
      rw [tc_of (by omega)]
      exact d_165 hb.1 hA ((f2 39 6 (by omega) (by omega)).trans hc1.2.2.2.1) A 0 (V := cls σ) (by omega) I2 (fun _ _ _ _ => rfl) ⟨fun c hc => by rw [f2 46 _ (by omega) (by omega), e39 46 _ (by omega)]; exact (hN c hc).symm, by rw [f2 39 12 (by omega) (by omega), e39 39 12 (by omega)]; exact hs.symm⟩ (fun v σ' f V' => Or.inr ⟨p, MO_V r2 f2 f V'⟩)
    · rw [ed] at p
      rw [if_neg hv]
      exact Or.inl ⟨p, fun _ _ _ _ => rfl⟩
theorem ag_drift0 {σ : St} {a : Int32} (hJ : J2 D0 σ) (j1 : CI 67 [.ref 0, .int a] σ (fun _ σ' => J σ')) (j2 : ∀ σ1, J σ1 → CI 168 [.ref 39, .int a] σ1 (fun _ σ' => J σ')) {K : Int32 → Int32 → St → Prop} (hK : ∀ v1 v2 σ', J2 D0 σ' → K v1 v2 σ') : CI 67 [.ref 0, .int a] σ (fun v1 σ1 => CI 168 [.ref 39, .int a] σ1 (fun v2 σ2 => K v1 v2 σ2)) := by
  refine ag_op HD0 hJ j1 j2 (fun P x n hx hm hb hc hN hs => ⟨dP (P.1 0) (σ 19 1) a, itV (drV (P.1 1) (P.1 2) (P.1 3)) a.toNatClampNeg (cls σ), ?_, fun σ1 J1 e39 => ?_⟩) hK
  · refine w_67 (s_102 hx.2.1 hx.1.1 (fun p => ?_) (fun p v hv => ?_))
    · rw [if_pos rfl]
      refine s_9I hJ.1.1 hb fun σ1 I1 r1 f1 => ?_
      obtain ⟨A, hA, rfl⟩ := dP_n p
      rw [tc_of (by omega)]
      exact d_67 hb.2.1 hb.1 hx.1.2.2.2 hA ((f1 11 1 (by omega) (by omega)).trans hx.2.2.1) ((f1 11 2 (by omega) (by omega)).trans hx.2.2.2.1) ((f1 11 3 (by omega) (by omega)).trans hx.2.2.2.2.1) A 0 (V := cls σ) (by omega) I1 (fun _ _ _ => rfl) ⟨fun c _ => cls_ex (fun k j h1 h2 => f1 k j (by omega) (by omega)) c, f1 19 4 (by omega) (by omega)⟩ (fun v σ' f V' => Or.inr ⟨p, CO_V r1 f1 f V'⟩)
    · rw [if_neg hv]
      exact Or.inl ⟨p, fun _ _ _ => rfl⟩
  · have hc1 := C2_39 hc e39
    have ed : σ1 46 13 = σ 19 1 := (e39 46 13 (by omega)).trans (hN 1 (Or.inr (Or.inl rfl))).symm
    refine w_168 (s_164 ((e39 39 0 (by omega)).trans hm.1) hx.1.1 (fun p => ?_) (fun p v hv => ?_))
    · rw [ed] at p
      rw [if_pos rfl]
      refine s_153I J1.1 hc1 fun σ2 I2 r2 f2 => ?_
      obtain ⟨A, hA, rfl⟩ := dP_n p
      rw [tc_of (by omega)]
      exact d_168 hb.2.1 hb.1 hx.1.2.2.2 hA ((f2 39 1 (by omega) (by omega)).trans hc1.2.2.2.2.1) ((f2 39 6 (by omega) (by omega)).trans hc1.2.2.2.1) ((f2 39 9 (by omega) (by omega)).trans ((e39 39 9 (by omega)).trans hm.2.2.2.1)) A 0 (V := cls σ) (by omega) I2 (fun _ _ _ _ => rfl) ⟨fun c hc => by rw [f2 46 _ (by omega) (by omega), e39 46 _ (by omega)]; exact (hN c hc).symm, by rw [f2 39 12 (by omega) (by omega), e39 39 12 (by omega)]; exact hs.symm⟩ (fun v σ' f V' => Or.inr ⟨p, MO_V r2 f2 f V'⟩)
    · rw [ed] at p
      rw [if_neg hv]
      exact Or.inl ⟨p, fun _ _ _ _ => rfl⟩
