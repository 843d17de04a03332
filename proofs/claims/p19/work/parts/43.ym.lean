/-! draws: the class, the reference -/
theorem q1_104 {P : PS} {f : Nat → Nat} {σ : St} {K : St → Prop} (hL1 : 1 ≤ P.1 1) (hI : Inv σ) (hx : XP σ P) (hq : ∀ i, i < P.1 1 → σ 15 i = Int32.ofNat (f i)) (hf : ∀ i, i < P.1 1 → f i < P.1 1) (hK : ∀ σ', Inv σ' → (∀ k j, ¬ (19 ≤ k ∧ k ≤ 21) → σ' k j = σ k j) → cls σ' = chF P f (cls σ) → K σ') : CV 104 [.ref 0] σ K := by
  have hL := hx.1.2.1
  have hM := hx.1.2.2.1
  have hI4 := hx.1.2.2.2
  have v4 : σ 19 4 = cls σ 4 := rfl
  have v0 : σ 19 0 = cls σ 0 := rfl
  refine w_104 (s_51 (n := 5) (by omega) (by omega) ?_)
  rw [v4]
  show (if dn (sd (cls σ 4)) 5 = 0 then _ else (if dn (sd (cls σ 4)) 5 = 1 then _ else (if dn (sd (cls σ 4)) 5 = 2 then _ else _)))
  have done1 : vu (cls σ) 4 (sd (cls σ 4)) = chF P f (cls σ) → K (s2 σ 19 4 (sd (cls σ 4))) := fun h2 => by
    refine hK _ (InvF hI (fun k j h => s2_ne _ _ (by omega))) (fun k j h => s2_ne _ _ (by omega)) ?_
    rw [← h2]
    exact cls_19 (by omega) _
  by_cases k0 : dn (sd (cls σ 4)) 5 = 0
  · rw [if_pos k0]
    show CI 51 [.ref 19, .int (σ 11 1)] _ _
    rw [hx.2.2.1]
    refine s_51 hL1 hL ?_
    show K (s2 (s2 (s2 σ 19 4 (sd (cls σ 4))) 19 4 (sd (sd (cls σ 4)))) 19 0 (cls σ 0 ^^^ shl1 (dn (sd (sd (cls σ 4))) (Int32.ofNat (P.1 1)))))
    refine hK _ (InvF hI (fun k j h => ?_)) (fun k j h => ?_) ?_
    · rw [s2_ne _ _ (by omega), s2_ne _ _ (by omega), s2_ne _ _ (by omega)]
    · rw [s2_ne _ _ (by omega), s2_ne _ _ (by omega), s2_ne _ _ (by omega)]
    · rw [cls_19 (by omega), cls_19 (by omega), cls_19 (by omega)]
      unfold chF
      rw [if_pos k0]
  · rw [if_neg k0]
    by_cases k1 : dn (sd (cls σ 4)) 5 = 1
    · rw [if_pos k1]
      show (if σ 11 2 ≤ 0 then _ else CI 51 [.ref 19, .int (σ 11 2)] _ _)
      rw [hx.2.2.2.1]
      by_cases m0 : P.1 2 = 0
      · rw [if_pos ((le0 (by omega)).mpr m0)]
        have := done1 (by unfold chF; rw [if_neg k0, if_pos k1, if_pos m0])
        split
        · exact this
        · exact this
      · rw [if_neg (fun z => m0 ((le0 (by omega)).mp z))]
        refine s_51 (by omega) (by omega) ?_
        show CI 51 [.ref 19, .int (σ 11 1)] _ _
        rw [hx.2.2.1]
        refine s_51 hL1 hL ?_
        have rm : inR (P.1 2) (dn (sd (sd (cls σ 4))) (Int32.ofNat (P.1 2))) := dn_in (sd_nn _) (by omega) (by omega)
        refine s_86 (n := P.1 2) hx.2.2.2.1 hM ?_
        have h10 : (if inR (P.1 2) (dn (sd (sd (cls σ 4))) (Int32.ofNat (P.1 2))) then (1 : Int32) else 0) = 1 := if_pos rm
        show (if (if inR (P.1 2) (dn (sd (sd (cls σ 4))) (Int32.ofNat (P.1 2))) then (1 : Int32) else 0) = 0 then _ else _)
        rw [h10, if_neg (by decide)]
        obtain ⟨m, hm, em, ec⟩ := inR_n rm
        refine ⟨by unfold inR at rm; show 0 ≤ (dn (sd (sd (cls σ 4))) (Int32.ofNat (P.1 2))).toInt ∧ (dn (sd (sd (cls σ 4))) (Int32.ofNat (P.1 2))).toInt < 5; omega, ?_⟩
        show K (s2 (s2 (s2 (s2 σ 19 4 (sd (cls σ 4))) 19 4 (sd (sd (cls σ 4)))) 19 4 (sd (sd (sd (cls σ 4))))) 20 (dn (sd (sd (cls σ 4))) (Int32.ofNat (P.1 2))).toNatClampNeg ((σ 20 (dn (sd (sd (cls σ 4))) (Int32.ofNat (P.1 2))).toNatClampNeg) ^^^ shl1 (dn (sd (sd (sd (cls σ 4)))) (Int32.ofNat (P.1 1)))))
        rw [ec]
        refine hK _ (InvF hI (fun k j h => ?_)) (fun k j h => ?_) ?_
        · rw [s2_ne _ _ (by omega), s2_ne _ _ (by omega), s2_ne _ _ (by omega), s2_ne _ _ (by omega)]
        · rw [s2_ne _ _ (by omega), s2_ne _ _ (by omega), s2_ne _ _ (by omega), s2_ne _ _ (by omega)]
        · rw [cls_20 (by omega), cls_19 (by omega), cls_19 (by omega), cls_19 (by omega)]
          unfold chF
          rw [if_neg k0, if_pos k1, if_neg m0, ec, cls5 (by omega)]
    · rw [if_neg k1]
      by_cases k2 : dn (sd (cls σ 4)) 5 = 2
      · rw [if_pos k2]
        show (if σ 11 2 ≤ 0 then _ else (if σ 11 3 ≤ 0 then _ else CI 51 [.ref 19, .int (σ 11 3)] _ _))
        rw [hx.2.2.2.1, hx.2.2.2.2.1]
        by_cases m0 : P.1 2 = 0
        · rw [if_pos ((le0 (by omega)).mpr m0)]
          exact done1 (by unfold chF; rw [if_neg k0, if_neg k1, if_pos k2, if_pos m0])
        · rw [if_neg (fun z => m0 ((le0 (by omega)).mp z))]
          by_cases i0 : P.1 3 = 0
          · rw [if_pos ((le0 (by omega)).mpr i0)]
            exact done1 (by unfold chF; rw [if_neg k0, if_neg k1, if_pos k2, if_neg m0, if_pos i0])
          · rw [if_neg (fun z => i0 ((le0 (by omega)).mp z))]
            refine s_51 (by omega) (by omega) ?_
            show CI 51 [.ref 19, .int (σ 11 2)] _ _
            rw [hx.2.2.2.1]
            refine s_51 (by omega) (by omega) ?_
            show CI 101 [.ref 0, .int (dn (sd (sd (cls σ 4))) (Int32.ofNat (P.1 3))), .int (dn (sd (sd (sd (cls σ 4)))) (Int32.ofNat (P.1 2)))] (s2 (s2 (s2 σ 19 4 (sd (cls σ 4))) 19 4 (sd (sd (cls σ 4)))) 19 4 (sd (sd (sd (cls σ 4))))) _
            obtain ⟨m, hm, em, ec⟩ := inR_n (dn_in (s := sd (sd (sd (cls σ 4)))) (n := P.1 2) (sd_nn _) (by omega) (by omega))
            obtain ⟨i, hi, ei, eci⟩ := inR_n (dn_in (s := sd (sd (cls σ 4))) (n := P.1 3) (sd_nn _) (by omega) (by omega))
            have fr : ∀ k j, ¬ (19 ≤ k ∧ k ≤ 21) → (s2 (s2 (s2 σ 19 4 (sd (cls σ 4))) 19 4 (sd (sd (cls σ 4)))) 19 4 (sd (sd (sd (cls σ 4))))) k j = σ k j := fun k j h => by rw [s2_ne _ _ (by omega), s2_ne _ _ (by omega), s2_ne _ _ (by omega)]
            have ecl : cls (s2 (s2 (s2 σ 19 4 (sd (cls σ 4))) 19 4 (sd (sd (cls σ 4)))) 19 4 (sd (sd (sd (cls σ 4))))) = vu (vu (vu (cls σ) 4 (sd (cls σ 4))) 4 (sd (sd (cls σ 4)))) 4 (sd (sd (sd (cls σ 4)))) := by rw [cls_19 (by omega), cls_19 (by omega), cls_19 (by omega)]
            rw [em, ei]
            refine s_101 (f := f) (XP_ex (fun k j hk => fr k j (by omega)) hx) (fun i hi => (fr 15 i (by omega)).trans (hq i hi)) hf hi hm ?_
            show CV 50 [.ref 19, .int (dn (sd (sd (sd (cls σ 4)))) (Int32.ofNat (P.1 2))), .int (Int32.ofNat (10 * uc f (σ 20 m) (σ 19 0) (P.1 1) 0 (P.2.2 5 i).toInt.toNat))] _ _
            rw [em]
            refine s_50c (by omega) fun σ5 f5 c5 => hK _ (InvF hI (fun k j h => ?_)) (fun k j h => ?_) ?_
            · rw [f5 k j (by omega), s2_ne _ _ (by omega), s2_ne _ _ (by omega), s2_ne _ _ (by omega)]
            · rw [f5 k j (by omega)]; exact fr k j h
            · rw [c5, ecl]
              unfold chF
              rw [if_neg k0, if_neg k1, if_pos k2, if_neg m0, if_neg i0, ec, eci, cls5 (by omega)]
              rfl
      · rw [if_neg k2]
        exact done1 (by unfold chF; rw [if_neg k0, if_neg k1, if_neg k2])
theorem q1_167 {P : PS} {f : Nat → Nat} {σ : St} {V : Nat → Int32} {K : St → Prop} (hL1 : 1 ≤ P.1 1) (hb : PB P) (hLk : LKp (P.1 1) (P.2.2 2) f) (hI : Inv σ) (hmp : MPl σ P) (hB : BG (P.1 1) (P.1 2) V) (hV : Vm1 (P.1 2) σ V) (hK : ∀ σ', Inv σ' → (∀ k j, ¬ k = 46 → ¬ (k = 39 ∧ j = 12) → σ' k j = σ k j) → Vm1 (P.1 2) σ' (chF P f V) → K σ') : CV 167 [.ref 39] σ K := by
  have hL := hb.2.1
  have hM := hb.2.2.1
  have hI4 := hb.2.2.2
  have v4 := hV.c.2.2.2.2
  have nn : 0 ≤ (σ 39 12).toInt := (hI.1 39 12).1
  refine w_167 (s_166 (n := 5) nn (by omega) (by omega) ?_)
  rw [v4]
  have a1 := hV.d (sd (V 4))
  have I1 : Inv (s2 σ 39 12 (sd (V 4))) := Inv12 hI (sd_nn _)
  show (if dn (sd (V 4)) 5 = 0 then _ else (if dn (sd (V 4)) 5 = 1 then _ else (if dn (sd (V 4)) 5 = 2 then _ else _)))
  have done1 : vu V 4 (sd (V 4)) = chF P f V → K (s2 σ 39 12 (sd (V 4))) := fun h2 => by
    refine hK _ I1 (fun k j _ h => s2_ne _ _ h) ?_
    rw [← h2]
    exact a1
  by_cases k0 : dn (sd (V 4)) 5 = 0
  · rw [if_pos k0]
    show CI 166 [.ref 39, .int (σ 39 1)] _ _
    rw [hmp.2.1]
    refine s_166 (sd_nn _) hL1 hL ?_
    have a2 := (a1.d (sd (sd (V 4)))).u (c0 := 0) (j := 10) (by omega) (by omega) rfl (V 0 ^^^ shl1 (dn (sd (sd (V 4))) (Int32.ofNat (P.1 1))))
    have g : K (s2 (s2 (s2 σ 39 12 (sd (V 4))) 39 12 (sd (sd (V 4)))) 46 10 (V 0 ^^^ shl1 (dn (sd (sd (V 4))) (Int32.ofNat (P.1 1))))) := by
      refine hK _ (InvF (Inv12 I1 (sd_nn (sd (V 4)))) (fun k j h => s2_ne _ _ (by omega))) (fun k j h h' => ?_) ?_
      · rw [s2_ne _ _ (by omega), s2_ne _ _ (by omega), s2_ne _ _ (by omega)]
      · unfold chF; rw [if_pos k0]; exact a2
    rw [← hV.c.1] at g
    exact g
  · rw [if_neg k0]
    by_cases k1 : dn (sd (V 4)) 5 = 1
    · rw [if_pos k1]
      show (if σ 39 6 ≤ 0 then _ else CI 166 [.ref 39, .int (σ 39 6)] _ _)
      rw [hmp.2.2.1]
      by_cases m0 : P.1 2 = 0
      · rw [if_pos ((le0 (by omega)).mpr m0)]
        have := done1 (by unfold chF; rw [if_neg k0, if_pos k1, if_pos m0])
        split
        · exact this
        · exact this
      · rw [if_neg (fun z => m0 ((le0 (by omega)).mp z))]
        refine s_166 (sd_nn _) (by omega) (by omega) ?_
        have rm : inR (P.1 2) (dn (sd (sd (V 4))) (Int32.ofNat (P.1 2))) := dn_in (sd_nn _) (by omega) (by omega)
        obtain ⟨m, hm, em, ec⟩ := inR_n rm
        refine ⟨by unfold inR at rm; show 0 ≤ (dn (sd (sd (V 4))) (Int32.ofNat (P.1 2))).toInt ∧ (dn (sd (sd (V 4))) (Int32.ofNat (P.1 2))).toInt < 14; omega, ?_⟩
        show CI 166 [.ref 39, .int (σ 39 1)] _ _
        rw [hmp.2.1]
        refine s_166 (sd_nn _) hL1 hL ?_
        have a2 := ((a1.d (sd (sd (V 4)))).d (sd (sd (sd (V 4))))).u (c0 := 5 + m) (j := m) (by omega) (by omega) mu5 (V (5 + m) ^^^ shl1 (dn (sd (sd (sd (V 4)))) (Int32.ofNat (P.1 1))))
        have g : K (s2 (s2 (s2 (s2 σ 39 12 (sd (V 4))) 39 12 (sd (sd (V 4)))) 39 12 (sd (sd (sd (V 4))))) 46 m (V (5 + m) ^^^ shl1 (dn (sd (sd (sd (V 4)))) (Int32.ofNat (P.1 1))))) := by
          refine hK _ (InvF (Inv12 (Inv12 I1 (sd_nn (sd (V 4)))) (sd_nn (sd (sd (V 4))))) (fun k j h => s2_ne _ _ (by omega))) (fun k j h h' => ?_) ?_
          · rw [s2_ne _ _ (by omega), s2_ne _ _ (by omega), s2_ne _ _ (by omega), s2_ne _ _ (by omega)]
          · unfold chF; rw [if_neg k0, if_pos k1, if_neg m0, ec]; exact a2
        rw [← hV.s hM hm] at g
        show K (s2 _ 46 (dn (sd (sd (V 4))) (Int32.ofNat (P.1 2))).toNatClampNeg ((σ 46 (dn (sd (sd (V 4))) (Int32.ofNat (P.1 2))).toNatClampNeg) ^^^ _))
        rw [ec]
        exact g
    · rw [if_neg k1]
      by_cases k2 : dn (sd (V 4)) 5 = 2
      · rw [if_pos k2]
        show (if σ 39 6 ≤ 0 then _ else (if σ 39 9 ≤ 0 then _ else CI 166 [.ref 39, .int (σ 39 9)] _ _))
        rw [hmp.2.2.1, hmp.2.2.2.1]
        by_cases m0 : P.1 2 = 0
        · rw [if_pos ((le0 (by omega)).mpr m0)]
          exact done1 (by unfold chF; rw [if_neg k0, if_neg k1, if_pos k2, if_pos m0])
        · rw [if_neg (fun z => m0 ((le0 (by omega)).mp z))]
          by_cases i0 : P.1 3 = 0
          · rw [if_pos ((le0 (by omega)).mpr i0)]
            exact done1 (by unfold chF; rw [if_neg k0, if_neg k1, if_pos k2, if_neg m0, if_pos i0])
          · rw [if_neg (fun z => i0 ((le0 (by omega)).mp z))]
            refine s_166 (sd_nn _) (by omega) (by omega) ?_
            show CI 166 [.ref 39, .int (σ 39 6)] _ _
            rw [hmp.2.2.1]
            refine s_166 (sd_nn _) (by omega) (by omega) ?_
            obtain ⟨m, hm, em, ec⟩ := inR_n (dn_in (s := sd (sd (sd (V 4)))) (n := P.1 2) (sd_nn _) (by omega) (by omega))
            obtain ⟨i, hi, ei, eci⟩ := inR_n (dn_in (s := sd (sd (V 4))) (n := P.1 3) (sd_nn _) (by omega) (by omega))
            have I3 := Inv12 (Inv12 I1 (sd_nn (sd (V 4)))) (sd_nn (sd (sd (V 4))))
            have a3 := (a1.d (sd (sd (V 4)))).d (sd (sd (sd (V 4))))
            show CI 159 [.ref 39, .int (dn (sd (sd (V 4))) (Int32.ofNat (P.1 3))), .int (dn (sd (sd (sd (V 4)))) (Int32.ofNat (P.1 2)))] (s2 (s2 (s2 σ 39 12 (sd (V 4))) 39 12 (sd (sd (V 4)))) 39 12 (sd (sd (sd (V 4))))) _
            rw [em, ei]
            refine s_159 (f := f) hb (MPl_ex (fun k j hk => by rw [s2_ne _ _ (by omega), s2_ne _ _ (by omega), s2_ne _ _ (by omega)]) hmp) hLk hi hm (fun j hj => ?_) ?_
            · show bt (σ 46 m) j = false
              rw [hV.s hM hm]
              exact hB.2.1 m hm j hj
            · show CV 158 [.ref 39, .int (dn (sd (sd (sd (V 4)))) (Int32.ofNat (P.1 2))), .int (Int32.ofNat (10 * uc f (σ 46 m) (σ 46 10) (P.1 1) 0 (P.2.2 5 i).toInt.toNat))] _ _
              rw [em, hV.s hM hm, hV.c.1]
              refine s_158m hM hm a3 fun σ5 f5 V5 => hK _ (InvF I3 (fun k j h => f5 k j (by omega))) (fun k j h h' => ?_) ?_
              · rw [f5 k j h, s2_ne _ _ (by omega), s2_ne _ _ (by omega), s2_ne _ _ (by omega)]
              · unfold chF
                rw [if_neg k0, if_neg k1, if_pos k2, if_neg m0, if_neg i0, ec, eci]
                exact V5
      · rw [if_neg k2]
        exact done1 (by unfold chF; rw [if_neg k0, if_neg k1, if_neg k2])
/-! what all owe -/
def alO (M : Nat) (V : Nat → Int32) : Int32 := smm (fun i => V (10 + i)) M 0 0
theorem s_100l {σ : St} {P : PS} {K : Int32 → St → Prop} (hx : XP σ P) : ∀ (d i : Nat) (x : Int32), i + d = P.1 2 → K (smm (fun i => cls σ (10 + i)) d i x) σ → PI 100 4 [some (.ref 0), some (.int x), some (.int (Int32.ofNat i))] [] σ K := by
  have h5 := hx.1.2.2.1
  intro d
  induction d with
  | zero =>
    intro i x hi hK
    refine w_100_4 ?_
    rw [hx.2.2.2.1, if_pos (by rw [Int32.le_iff_toInt_le, ti_of (by omega), ti_of (by omega)]; omega)]
    exact hK
  | succ d ih =>
    intro i x hi hK
    refine w_100_4 ?_
    rw [hx.2.2.2.1, if_neg (by rw [Int32.le_iff_toInt_le, ti_of (by omega), ti_of (by omega)]; omega)]
    refine ⟨by rw [ti_of (by omega)]; omega, ?_⟩
    rw [tc_of (by omega), of_s, show σ 21 i = cls σ (10 + i) from cls10.symm]
    exact ih (i + 1) _ (by omega) hK
theorem s_100 {σ : St} {P : PS} {K : Int32 → St → Prop} (hx : XP σ P) (hK : K (alO (P.1 2) (cls σ)) σ) : CI 100 [.ref 0] σ K := w_100 (s_100l hx (P.1 2) 0 0 (by omega) hK)
theorem s_162l {σ : St} {P : PS} {V : Nat → Int32} {K : Int32 → St → Prop} (hb : PB P) (hm : MPl σ P) (hV : Vm1 (P.1 2) σ V) : ∀ (d i : Nat) (x : Int32), i + d = P.1 2 → K (smm (fun i => V (10 + i)) d i x) σ → PI 162 4 [some (.ref 39), some (.int x), some (.int (Int32.ofNat i))] [] σ K := by
  have h5 := hb.2.2.1
  have l5 : (5 : Int32).toInt = 5 := rfl
  intro d
  induction d with
  | zero =>
    intro i x hi hK
    refine w_162_4 ?_
    rw [hm.2.2.1, if_pos (by rw [Int32.le_iff_toInt_le, ti_of (by omega), ti_of (by omega)]; omega)]
    exact hK
  | succ d ih =>
    intro i x hi hK
    have e5 : (5 + Int32.ofNat i).toInt = 5 + (i : Int) := by rw [ti_add (by rw [ti_of (by omega), l5]; omega) (by rw [ti_of (by omega), l5]; omega), ti_of (by omega), l5]
    have c5 : (5 + Int32.ofNat i).toNatClampNeg = 5 + i := by rw [tc_ti, e5]; omega
    refine w_162_4 ?_
    rw [hm.2.2.1, if_neg (by rw [Int32.le_iff_toInt_le, ti_of (by omega), ti_of (by omega)]; omega)]
    refine ⟨by rw [e5]; omega, ?_⟩
    rw [c5, of_s, hV.o h5 (by omega)]
    exact ih (i + 1) _ (by omega) hK
theorem s_162 {σ : St} {P : PS} {V : Nat → Int32} {K : Int32 → St → Prop} (hb : PB P) (hm : MPl σ P) (hV : Vm1 (P.1 2) σ V) (hK : K (alO (P.1 2) V) σ) : CI 162 [.ref 39] σ K := w_162 (s_162l hb hm hV (P.1 2) 0 0 (by omega) hK)
/-! rounds -/
theorem d1_66 {P : PS} {A : Nat} {τ : St} {K : Int32 → St → Prop} (hA : A ≤ 60) (hx : XP τ P) {x2 : Int32} : ∀ (d i : Nat) {σ : St}, i + d = A → Inv σ → (∀ k j, ¬ (19 ≤ k ∧ k ≤ 21) → σ k j = τ k j) → (∀ σ', (∀ k j, ¬ (19 ≤ k ∧ k ≤ 21) → σ' k j = τ k j) → cls σ' = itV (dyF P) d (cls σ) → K (alO (P.1 2) (cls σ')) σ') → PI 66 25 [some (.ref 0), some (.int (Int32.ofNat A)), some (.int x2), some (.int (Int32.ofNat i))] [] σ K := by
  intro d
  induction d with
  | zero =>
    intro i σ hi hI hf hK
    refine w_66_25 ?_
    rw [if_pos (by rw [Int32.le_iff_toInt_le, ti_of (by omega), ti_of (by omega)]; omega)]
    exact s_100 (XP_ex (fun k j hk => hf k j (by omega)) hx) (hK σ hf rfl)
  | succ d ih =>
    intro i σ hi hI hf hK
    refine w_66_25 ?_
    rw [if_neg (by rw [Int32.le_iff_toInt_le, ti_of (by omega), ti_of (by omega)]; omega)]
    refine q1_103 hI (XP_ex (fun k j hk => hf k j (by omega)) hx) fun σ1 I1 f1 c1 => ?_
    rw [of_s]
    refine ih (i + 1) (by omega) I1 (fun k j h => (f1 k j h).trans (hf k j h)) (fun σ' f' c' => hK σ' f' ?_)
    rw [c', c1]
    rfl
theorem d1_165 {P : PS} {A : Nat} {τ : St} {K : Int32 → St → Prop} (hA : A ≤ 60) (hb : PB P) (hq : PQd P) (hm : MPl τ P) {x2 : Int32} : ∀ (d i : Nat) {σ : St} {V : Nat → Int32}, i + d = A → Inv σ → (∀ k j, ¬ k = 46 → ¬ (k = 39 ∧ j = 12) → σ k j = τ k j) → Vm1 (P.1 2) σ V → (∀ σ', (∀ k j, ¬ k = 46 → ¬ (k = 39 ∧ j = 12) → σ' k j = τ k j) → Vm1 (P.1 2) σ' (itV (dyF P) d V) → K (alO (P.1 2) (itV (dyF P) d V)) σ') → PI 165 18 [some (.ref 39), some (.int (Int32.ofNat A)), some (.int x2), some (.int (Int32.ofNat i))] [] σ K := by
  intro d
  induction d with
  | zero =>
    intro i σ V hi hI hf hV hK
    refine w_165_18 ?_
    rw [if_pos (by rw [Int32.le_iff_toInt_le, ti_of (by omega), ti_of (by omega)]; omega)]
    exact s_162 hb (MPl_ex (fun k j hk => hf k j (by omega) (by omega)) hm) hV (hK σ hf hV)
  | succ d ih =>
    intro i σ V hi hI hf hV hK
    refine w_165_18 ?_
    rw [if_neg (by rw [Int32.le_iff_toInt_le, ti_of (by omega), ti_of (by omega)]; omega)]
    refine q1_163 hb hq hI (MPl_ex (fun k j hk => hf k j (by omega) (by omega)) hm) hV fun σ1 I1 f1 V1 => ?_
    rw [of_s]
    exact ih (i + 1) (by omega) I1 (fun k j h h' => (f1 k j h).trans (hf k j h h')) V1 hK
def drF (P : PS) (f : Nat → Nat) (V : Nat → Int32) : Nat → Int32 := if P.1 1 = 0 then dyF P V else dyF P (chF P f V)
theorem d1_67 {P : PS} {f : Nat → Nat} {A : Nat} {τ : St} {K : Int32 → St → Prop} (hA : A ≤ 60) (hx : XP τ P) (hq : ∀ i, i < P.1 1 → τ 15 i = Int32.ofNat (f i)) (hfl : ∀ i, i < P.1 1 → f i < P.1 1) {x2 : Int32} : ∀ (d i : Nat) {σ : St}, i + d = A → Inv σ → (∀ k j, ¬ (19 ≤ k ∧ k ≤ 21) → σ k j = τ k j) → (∀ σ', (∀ k j, ¬ (19 ≤ k ∧ k ≤ 21) → σ' k j = τ k j) → cls σ' = itV (drF P f) d (cls σ) → K (alO (P.1 2) (cls σ')) σ') → PI 67 25 [some (.ref 0), some (.int (Int32.ofNat A)), some (.int x2), some (.int (Int32.ofNat i))] [] σ K := by
  have hL := hx.1.2.1
  intro d
  induction d with
  | zero =>
    intro i σ hi hI hf hK
    refine w_67_25 ?_
    rw [if_pos (by rw [Int32.le_iff_toInt_le, ti_of (by omega), ti_of (by omega)]; omega)]
    exact s_100 (XP_ex (fun k j hk => hf k j (by omega)) hx) (hK σ hf rfl)
  | succ d ih =>
    intro i σ hi hI hf hK
    refine w_67_25 ?_
    have x1 := XP_ex (fun k j hk => hf k j (by omega)) hx
    rw [if_neg (by rw [Int32.le_iff_toInt_le, ti_of (by omega), ti_of (by omega)]; omega), x1.2.2.1]
    by_cases l0 : P.1 1 = 0
    · rw [if_pos ((le0 hL).mpr l0)]
      refine q1_103 hI x1 fun σ1 I1 f1 c1 => ?_
      rw [of_s]
      refine ih (i + 1) (by omega) I1 (fun k j h => (f1 k j h).trans (hf k j h)) (fun σ' f' c' => hK σ' f' ?_)
      have ed : drF P f (cls σ) = dyF P (cls σ) := by unfold drF; rw [if_pos l0]
      rw [c', c1, ← ed]
      rfl
    · rw [if_neg (fun z => l0 ((le0 hL).mp z))]
      refine q1_104 (f := f) (by omega) hI x1 (fun i hi => (hf 15 i (by omega)).trans (hq i hi)) hfl fun σ0 I0 f0 c0 => ?_
      refine q1_103 I0 (XP_ex (fun k j hk => (f0 k j (by omega)).trans (hf k j (by omega))) hx) fun σ1 I1 f1 c1 => ?_
      rw [of_s]
      refine ih (i + 1) (by omega) I1 (fun k j h => ((f1 k j h).trans (f0 k j h)).trans (hf k j h)) (fun σ' f' c' => hK σ' f' ?_)
      have ed : drF P f (cls σ) = dyF P (chF P f (cls σ)) := by unfold drF; rw [if_neg l0]
      rw [c', c1, c0, ← ed]
      rfl
theorem BG_dr {P : PS} {f : Nat → Nat} {V : Nat → Int32} (hb : PB P) (h : BG (P.1 1) (P.1 2) V) : BG (P.1 1) (P.1 2) (drF P f V) := by
  unfold drF
  split
  · exact BG_dy hb.2.2.1 h
  · exact BG_dy hb.2.2.1 (BG_ch hb (by omega) h)
theorem BG_it {L M : Nat} {g : (Nat → Int32) → Nat → Int32} (hg : ∀ V, BG L M V → BG L M (g V)) : ∀ (n : Nat) (V : Nat → Int32), BG L M V → BG L M (itV g n V)
  | 0, _, h => h
  | n + 1, V, h => BG_it hg n (g V) (hg V h)
theorem d1_168 {P : PS} {f : Nat → Nat} {A : Nat} {τ : St} {K : Int32 → St → Prop} (hA : A ≤ 60) (hb : PB P) (hq : PQd P) (hLk : LKp (P.1 1) (P.2.2 2) f) (hm : MPl τ P) {x2 : Int32} : ∀ (d i : Nat) {σ : St} {V : Nat → Int32}, i + d = A → Inv σ → (∀ k j, ¬ k = 46 → ¬ (k = 39 ∧ j = 12) → σ k j = τ k j) → BG (P.1 1) (P.1 2) V → Vm1 (P.1 2) σ V → (∀ σ', (∀ k j, ¬ k = 46 → ¬ (k = 39 ∧ j = 12) → σ' k j = τ k j) → Vm1 (P.1 2) σ' (itV (drF P f) d V) → K (alO (P.1 2) (itV (drF P f) d V)) σ') → PI 168 18 [some (.ref 39), some (.int (Int32.ofNat A)), some (.int x2), some (.int (Int32.ofNat i))] [] σ K := by
  have hL := hb.2.1
  intro d
  induction d with
  | zero =>
    intro i σ V hi hI hf hB hV hK
    refine w_168_18 ?_
    rw [if_pos (by rw [Int32.le_iff_toInt_le, ti_of (by omega), ti_of (by omega)]; omega)]
    exact s_162 hb (MPl_ex (fun k j hk => hf k j (by omega) (by omega)) hm) hV (hK σ hf hV)
  | succ d ih =>
    intro i σ V hi hI hf hB hV hK
    refine w_168_18 ?_
    have m1 := MPl_ex (fun k j hk => hf k j (by omega) (by omega)) hm
    have bd := BG_dr (f := f) hb hB
    rw [if_neg (by rw [Int32.le_iff_toInt_le, ti_of (by omega), ti_of (by omega)]; omega), m1.2.1]
    by_cases l0 : P.1 1 = 0
    · rw [if_pos ((le0 hL).mpr l0)]
      have ed : drF P f V = dyF P V := by unfold drF; rw [if_pos l0]
      refine q1_163 hb hq hI m1 hV fun σ1 I1 f1 V1 => ?_
      rw [of_s]
      exact ih (i + 1) (by omega) I1 (fun k j h h' => (f1 k j h).trans (hf k j h h')) bd (by rw [ed]; exact V1) hK
    · rw [if_neg (fun z => l0 ((le0 hL).mp z))]
      have ed : drF P f V = dyF P (chF P f V) := by unfold drF; rw [if_neg l0]
      refine q1_167 (f := f) (by omega) hb hLk hI m1 hB hV fun σ0 I0 f0 V0 => ?_
      refine q1_163 hb hq I0 (MPl_ex (fun k j hk => (f0 k j (by omega) (by omega)).trans (hf k j (by omega) (by omega))) hm) V0 fun σ1 I1 f1 V1 => ?_
      rw [of_s]
      exact ih (i + 1) (by omega) I1 (fun k j h h' => ((f1 k j h).trans (f0 k j h h')).trans (hf k j h h')) bd (by rw [ed]; exact V1) hK
