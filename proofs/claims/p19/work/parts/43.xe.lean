/-! survey, keep, goBack: all of the state -/
theorem ag_survey2 {D : Nat → Nat → Prop} (hD : HD D) {c1 c2 : Con} (hs1 : Sat c1) (hs2 : Sat c2) (e1 : c1.1 = 55) (e2 : c2.1 = 132) (p1 : cPr c1 = []) (p2 : cPr c2 = []) (g1 : cGp c1 = false) (g2 : cGp c2 = false) (a1 : argsS (cAr c1) [.ref 0]) (a2 : argsS (cAr c2) [.ref 39]) {σ : St} (hJ : J2 D σ) {K : Int32 → Int32 → St → Prop} (hK : ∀ v σ', J2 D σ' → K v v σ') : CI 55 [.ref 0] σ (fun v1 σ1 => CI 132 [.ref 39] σ1 (fun v2 σ2 => K v1 v2 σ2)) := by
  obtain ⟨T, hX, hM⟩ := T_of hJ.1.1 hJ.1.2.1
  have b5 : 0 ≤ (σ 1 5).toInt := (hJ.1.1.1 1 5).1
  have s1 : CI 55 [.ref 0] σ (fun v σ' => ((pz T).1 = 0 ∧ FC σ σ' ∧ XP σ' (pz T).2.2 ∧ XS σ' (pz T).2.2) ∨ (¬ (pz T).1 = 0 ∧ (∀ k j, ¬ (k = 0 ∧ j = 10) → ¬ k = 1 → (k < 3 ∨ 10 < k) → σ' k j = σ k j))) :=
    s_55 hX b5 (fun o σ' f x s e f1 => Or.inl ⟨o, f, x, s⟩) (fun o _ σ' f e f1 => Or.inr ⟨o, f⟩)
  refine ((ag_survey hs1 hs2 e1 e2 p1 p2 g1 g2 a1 a2 hJ.1 (K := fun v1 v2 σ' => v2 = v1 ∧ J σ') (fun v σ' j => ⟨rfl, j⟩)).and s1).imp fun v1 σ1 ⟨z0, z1⟩ => ?_
  have hM1 : TM σ1 T := by
    have k39 : ∀ k j, 39 ≤ k → σ1 k j = σ k j := fun k j hk => by
      rcases z1 with ⟨-, f, -⟩ | ⟨-, f⟩
      · exact f k j (by omega)
      · exact f k j (by omega) (by omega) (by omega)
    obtain ⟨n, m1, m2, m3, m4⟩ := hM
    refine ⟨n, m1, fun i hi => by rw [k39 47 i (by omega)]; exact m2 i hi, by rw [k39 39 14 (by omega)]; exact m3, ?_⟩
    rw [m4]
    funext i
    rw [k39 47 i (by omega)]
  have s2 : CI 132 [.ref 39] σ1 (fun v σ' => ((pz T).1 = 0 ∧ FM1 σ1 σ' ∧ MPl σ' (pz T).2.2 ∧ MS σ' (pz T).2.2) ∨ (¬ (pz T).1 = 0 ∧ (∀ k j, (k = 39 → j < 14 ∨ 28 < j) → (k < 48 ∨ 53 < k) → σ' k j = σ1 k j))) :=
    s_132 hM1 (fun o σ' f x s e f1 => Or.inl ⟨o, f, x, s⟩) (fun o _ σ' f e f1 => Or.inr ⟨o, f⟩)
  refine (CI.and z0 s2).imp fun v2 σ2 ⟨⟨ev, j2⟩, z2⟩ => ?_
  rw [ev]
  refine hK _ _ ?_
  rcases z1 with ⟨o, f1, x1, st1⟩ | ⟨o, f1⟩
  · rcases z2 with ⟨-, f2, x2, st2⟩ | ⟨o', -⟩
    · have q : ∀ k j, k < 39 → σ2 k j = σ1 k j := fun k j hk => f2 k j (fun e => by omega) (by omega)
      obtain ⟨a1, a2, a3, a4, a5, a6, a7, -⟩ := st1
      obtain ⟨b1, b2, b3, b4, b5, b6, b7, -, -, b8, b9⟩ := st2
      have r24 : 0 ≤ (σ2 24 1).toInt ∧ (σ2 24 1).toInt ≤ 15 := j2.1.1 24 1
      refine ⟨j2, _, XP_ex (fun k j hk => q k j (by omega)) x1, x2, fun c hc => ?_, ⟨(σ2 24 1).toInt.toNat, 0, (of_ti r24.1).symm, by omega, ?_, by omega, b7, fun k hk => absurd hk (Nat.not_lt_zero k)⟩, fun i hi h0 => ?_, ?_⟩
      · obtain ⟨c15, c4, cM⟩ := hD.1 _ _ hc
        rw [cls_ex (σ := σ1) (fun k j h1 h2 => q k j (by omega)) c]
        unfold cls
        by_cases l5 : c < 5
        · rw [if_pos l5]
          have cr : c = 0 ∨ c = 1 ∨ c = 2 ∨ c = 3 := by omega
          rcases cr with rfl | rfl | rfl | rfl
          · exact a1.trans b1.symm
          · exact a2.trans b4.symm
          · exact a3.trans b2.symm
          · exact a4.trans b3.symm
        · rw [if_neg l5]
          by_cases l10 : c < 10
          · rw [if_pos l10]
            obtain ⟨k, rfl⟩ : ∃ k, c = 5 + k := ⟨c - 5, by omega⟩
            have e : 5 + k - 5 = k := by omega
            have hk := cM (by omega) l10
            rw [mu5, e]
            exact (a5 k (by omega)).trans (b5 k (by omega)).symm
          · rw [if_neg l10]
            obtain ⟨k, rfl⟩ : ∃ k, c = 5 + (5 + k) := ⟨c - 10, by omega⟩
            rw [mu5]
            exact (a6 _ (by omega)).trans (b6 k (by omega)).symm
      · rw [q 24 2 (by omega)]; exact a7
      · have ci : i = 0 ∨ i = 1 := by omega
        rcases ci with rfl | rfl
        · exact absurd b8 h0
        · exact absurd b9 h0
      · obtain ⟨-, P, -, -, -, -, -, hs⟩ := hJ
        rw [q 19 4 (by omega), f1 19 4 (by omega), f2 39 12 (by omega) (by omega), f1 39 12 (by omega)]
        exact hs
    · exact absurd o o'
  · rcases z2 with ⟨o', -⟩ | ⟨-, f2⟩
    · exact absurd o' o
    · exact J2_ex hJ j2 (fun k j hs => (f2 k j (by unfold S2p at hs; omega) (by unfold S2p at hs; omega)).trans (f1 k j (by unfold S2p at hs; omega) (by unfold S2p at hs; omega) (by unfold S2p at hs; omega)))
/-! keep -/
theorem t15m {a : Int32} (ha : a = 0 ∨ a = 1) {i : Nat} (hi : i < 15) : (15 * a + Int32.ofNat i).toNatClampNeg = 15 * a.toNatClampNeg + i := by
  have h15 : (15 * a).toInt = 15 * (a.toNatClampNeg : Int) ∧ a.toNatClampNeg ≤ 1 := by
    rcases ha with rfl | rfl <;> decide
  rw [tc_ti, ti_add (by rw [ti_of (by omega)]; omega) (by rw [ti_of (by omega)]; omega), ti_of (by omega), h15.1]
  omega
theorem i25 {σ : St} (hI : Inv σ) : σ 25 0 = 2 := by
  have h : 2 ≤ (σ 25 0).toInt ∧ (σ 25 0).toInt ≤ 2 := hI.1 25 0
  exact ti_inj (show (σ 25 0).toInt = 2 by omega)
theorem k_82 {σ : St} {a : Int32} (hI : Inv σ) : CI 82 [.ref 0, .int a] σ (fun v σ' => (¬ inR 2 a ∧ v = -1000000001 ∧ σ' = σ) ∨ (inR 2 a ∧ v = 1 ∧ (∀ k j, ¬ k = 26 → ¬ (k = 0 ∧ j = 11) → ¬ (k = 24 ∧ j = 2) → σ' k j = σ k j) ∧ σ' 24 2 = 0 ∧ ∀ j, σ' 26 j = if 15 * a.toNatClampNeg ≤ j ∧ j < 15 * a.toNatClampNeg + 15 then cls σ (j - 15 * a.toNatClampNeg) else σ 26 j)) := by
  refine w_82 (s_88 (ite10 (fun c => ?_) (fun c => Or.inl ⟨c, rfl, rfl⟩)))
  obtain ⟨k, hk, rfl, ea⟩ := inR_n c
  rw [ea]
  refine p_25 hk (i25 hI) fun σ1 f1 r1 => s_93 (w_11 (Or.inr ⟨c, rfl, fun k j h1 h2 h3 => ?_, rfl, fun j => r1 j⟩))
  rw [s2_ne _ _ h3, s2_ne _ _ h2]
  exact f1 k j h1
theorem k_189l {a : Int32} {K : Int32 → St → Prop} (ha : a = 0 ∨ a = 1) {τ : St} (hK : ∀ σ', (∀ k j, ¬ k = 61 → σ' k j = τ k j) → (∀ j, j < 14 → σ' 61 (15 * a.toNatClampNeg + j) = τ 46 j) → (∀ j, ¬ (15 * a.toNatClampNeg ≤ j ∧ j < 15 * a.toNatClampNeg + 15) → σ' 61 j = τ 61 j) → K 1 (s2 (s2 (s2 σ' 61 (15 * a.toNatClampNeg + 14) (σ' 39 12)) 62 a.toNatClampNeg (vp_nar .boolean 1)) 39 32 0)) : ∀ (d i : Nat) {σ : St}, i + d = 14 → (∀ k j, ¬ k = 61 → σ k j = τ k j) → (∀ j, j < i → σ 61 (15 * a.toNatClampNeg + j) = τ 46 j) → (∀ j, ¬ (15 * a.toNatClampNeg ≤ j ∧ j < 15 * a.toNatClampNeg + 15) → σ 61 j = τ 61 j) → PI 189 15 [some (.ref 39), some (.int a), some (.int (Int32.ofNat i))] [] σ K := by
  have l14 : (14 : Int32).toInt = 14 := rfl
  intro d
  induction d with
  | zero =>
    intro i σ hi hf hr ho
    refine w_189_15 ?_
    rw [if_pos (by rw [Int32.le_iff_toInt_le, l14, ti_of (by omega)]; omega)]
    refine ⟨m15 ha (i := 14) (by omega), ?_, ?_⟩
    · rcases ha with rfl | rfl <;> decide
    · have e := t15m ha (i := 14) (by omega)
      rw [show Int32.ofNat 14 = 14 from rfl] at e
      rw [e]
      exact hK σ hf (fun j hj => hr j (by omega)) ho
  | succ d ih =>
    intro i σ hi hf hr ho
    refine w_189_15 ?_
    rw [if_neg (by rw [Int32.le_iff_toInt_le, l14, ti_of (by omega)]; omega)]
    refine ⟨by rw [ti_of (by omega)]; omega, m15 ha (by omega), ?_⟩
    rw [t15m ha (by omega), tc_of (by omega), of_s, hf 46 i (by decide)]
    refine ih (i + 1) (by omega) (fun k j hk => by rw [s2_ne _ _ (fun z => hk z.1)]; exact hf k j hk) (fun j hj => ?_) (fun j hj => by rw [s2_ne _ _ (by omega)]; exact ho j hj)
    show (if 15 * a.toNatClampNeg + j = 15 * a.toNatClampNeg + i then τ 46 i else σ 61 (15 * a.toNatClampNeg + j)) = τ 46 j
    by_cases c : j = i
    · rw [if_pos (by omega), c]
    · rw [if_neg (by omega)]; exact hr j (by omega)
theorem in01 {a : Int32} : (0 ≤ a ∧ a ≤ 1) ↔ inR 2 a := by
  have l0 : (0 : Int32).toInt = 0 := rfl
  have l1 : (1 : Int32).toInt = 1 := rfl
  rw [Int32.le_iff_toInt_le, Int32.le_iff_toInt_le, l0, l1]
  unfold inR
  omega
theorem k_189 {σ : St} {a : Int32} : CI 189 [.ref 39, .int a] σ (fun v σ' => (¬ inR 2 a ∧ v = -1000000001 ∧ σ' = σ) ∨ (inR 2 a ∧ v = 1 ∧ (∀ k j, ¬ k = 61 → ¬ (k = 62 ∧ j = a.toNatClampNeg) → ¬ (k = 39 ∧ j = 32) → σ' k j = σ k j) ∧ σ' 39 32 = 0 ∧ (∀ j, j < 14 → σ' 61 (15 * a.toNatClampNeg + j) = σ 46 j) ∧ σ' 61 (15 * a.toNatClampNeg + 14) = σ 39 12 ∧ ∀ j, ¬ (15 * a.toNatClampNeg ≤ j ∧ j < 15 * a.toNatClampNeg + 15) → σ' 61 j = σ 61 j)) := by
  refine w_189 (s_109 (b := 0) (c := 1) (ite10 (fun c => ?_) (fun c => Or.inl ⟨fun z => c (in01.mpr z), rfl, rfl⟩)))
  have hr := in01.mp c
  refine k_189l (two01 hr) (τ := σ) (fun σ' f r o => Or.inr ⟨hr, rfl, fun k j h1 h2 h3 => ?_, rfl, fun j hj => ?_, ?_, fun j hj => ?_⟩) 14 0 (by omega) (fun _ _ _ => rfl) (fun j hj => absurd hj (Nat.not_lt_zero j)) (fun _ _ => rfl)
  · rw [s2_ne _ _ h3, s2_ne _ _ h2, s2_ne _ _ (fun z => h1 z.1)]; exact f k j h1
  · rw [s2_ne _ _ (by omega), s2_ne _ _ (by omega), s2_ne _ _ (by omega)]; exact r j hj
  · rw [s2_ne _ _ (by omega), s2_ne _ _ (by omega), s2_self]; exact f 39 12 (by decide)
  · rw [s2_ne _ _ (by omega), s2_ne _ _ (by omega), s2_ne _ _ (by omega)]; exact o j hj
theorem ag_keep2 {D : Nat → Nat → Prop} (hD : HD D) {σ : St} {a : Int32} (hJ : J2 D σ) (h1 : CI 82 [.ref 0, .int a] σ (fun _ σ' => Inv σ' ∧ FrM [(0, 11), (24, 2)] [26] σ σ')) (h2 : ∀ σ1, Inv σ1 → CI 189 [.ref 39, .int a] σ1 (fun _ σ' => Inv σ' ∧ FrM [(39, 32)] [61, 62] σ1 σ')) {K : Int32 → Int32 → St → Prop} (hK : ∀ v σ', J2 D σ' → K v v σ') : CI 82 [.ref 0, .int a] σ (fun v1 σ1 => CI 189 [.ref 39, .int a] σ1 (fun v2 σ2 => K v1 v2 σ2)) := by
  refine ((ag_keep hJ.1 h1 h2 (K := fun v1 v2 σ' => v2 = v1 ∧ J σ') (fun v σ' j => ⟨rfl, j⟩)).and (k_82 hJ.1.1)).imp fun v1 σ1 ⟨z0, z1⟩ => ?_
  refine (CI.and z0 k_189).imp fun v2 σ2 ⟨⟨ev, j2⟩, z2⟩ => ?_
  rw [ev]
  refine hK _ _ ?_
  rcases z1 with ⟨no, -, rfl⟩ | ⟨ok, -, f1, u1, r1⟩
  · rcases z2 with ⟨-, -, rfl⟩ | ⟨ok, -⟩
    · exact hJ
    · exact absurd ok no
  · rcases z2 with ⟨no, -⟩ | ⟨-, -, f2, u2, r2, r3, r4⟩
    · exact absurd ok no
    · obtain ⟨P, x, n, hx, hm, hu, hN, hi, hs, -, -⟩ := hJ.b
      obtain ⟨k, hk, -, ea⟩ := inR_n ok
      rw [ea] at r1 r2 r3 r4 f2
      have fr : ∀ k' j, ¬ k' = 26 → ¬ k' = 61 → ¬ k' = 62 → ¬ (k' = 0 ∧ j = 11) → ¬ (k' = 24 ∧ j = 2) → ¬ (k' = 39 ∧ j = 32) → σ2 k' j = σ k' j := fun k' j b1 b2 b3 b4 b5 b6 => (f2 k' j b2 (fun z => b3 z.1) b6).trans (f1 k' j b1 b4 b5)
      refine ⟨j2, P, XP_ex (fun k j hk => fr k j (by omega) (by omega) (by omega) (by omega) (by omega) (by omega)) hx, MPl_ex (fun k j hk => fr k j (by omega) (by omega) (by omega) (by omega) (by omega) (by omega)) hm, fun c hc => ?_, ⟨x, 0, ?_, hu.2.1, ?_, by omega, u2, fun k hk => absurd hk (Nat.not_lt_zero k)⟩, fun i hi2 h0 => ?_, ?_⟩
      · rw [cls_ex (σ := σ) (fun k j h1 h2 => fr k j (by omega) (by omega) (by omega) (by omega) (by omega) (by omega)) c, fr 46 _ (by omega) (by omega) (by omega) (by omega) (by omega) (by omega)]
        exact hN c hc
      · rw [fr 24 1 (by omega) (by omega) (by omega) (by omega) (by omega) (by omega)]; exact hu.1
      · rw [f2 24 2 (by omega) (by omega) (by omega)]; exact u1
      · by_cases ci : i = k
        · subst ci
          have e26 : ∀ c, c < 15 → σ2 26 (15 * i + c) = cls σ c := fun c hc => by
            rw [f2 26 _ (by omega) (by omega) (by omega), r1, if_pos (by omega)]
            congr 1
            omega
          refine ⟨fun c hc => ?_, ?_⟩
          · obtain ⟨c15, c4, -⟩ := hD.1 _ _ hc
            rw [e26 c c15, r2 _ (mu_lt c15 c4), f1 46 _ (by omega) (by omega) (by omega)]
            exact hN c hc
          · rw [e26 4 (by omega), r3, f1 39 12 (by omega) (by omega) (by omega)]
            exact hs
        · have h0' : ¬ σ 62 i = 0 := by
            rw [f2 62 i (by omega) (by omega) (by omega), f1 62 i (by omega) (by omega) (by omega)] at h0
            exact h0
          obtain ⟨q1, q2⟩ := hi i hi2 h0'
          have e26 : ∀ c, c < 15 → σ2 26 (15 * i + c) = σ 26 (15 * i + c) := fun c hc => by
            rw [f2 26 _ (by omega) (by omega) (by omega), r1, if_neg (by omega)]
          have e61 : ∀ c, c < 15 → σ2 61 (15 * i + c) = σ 61 (15 * i + c) := fun c hc => by
            rw [r4 _ (by omega), f1 61 _ (by omega) (by omega) (by omega)]
          refine ⟨fun c hc => ?_, ?_⟩
          · obtain ⟨c15, c4, -⟩ := hD.1 _ _ hc
            have := mu_lt c15 c4
            rw [e26 c c15, e61 _ (by omega)]
            exact q1 c hc
          · rw [e26 4 (by omega), e61 14 (by omega)]; exact q2
      · rw [fr 19 4 (by omega) (by omega) (by omega) (by omega) (by omega) (by omega), fr 39 12 (by omega) (by omega) (by omega) (by omega) (by omega) (by omega)]
        exact hs
/-! goBack -/
theorem k_83 {σ : St} {a : Int32} (hI : Inv σ) : CI 83 [.ref 0, .int a] σ (fun v σ' => (¬ inR 2 a ∧ v = -1000000001 ∧ σ' = σ) ∨ (inR 2 a ∧ ush (σ 0 11) a &&& 1 = 0 ∧ v = -1000000003 ∧ σ' = σ) ∨ (inR 2 a ∧ ¬ ush (σ 0 11) a &&& 1 = 0 ∧ v = 1 ∧ (∀ k j, ¬ k = 19 → ¬ k = 20 → ¬ k = 21 → ¬ (k = 24 ∧ j = 2) → σ' k j = σ k j) ∧ σ' 24 2 = 0 ∧ ∀ c, c < 15 → cls σ' c = σ 26 (15 * a.toNatClampNeg + c))) := by
  refine w_83 (s_88 (ite10 (fun c => w_92 ?_) (fun c => Or.inl ⟨c, rfl, rfl⟩)))
  by_cases d : ush (σ 0 11) a &&& 1 = 0
  · rw [if_pos d]; exact Or.inr (Or.inl ⟨c, d, rfl, rfl⟩)
  · rw [if_neg d]
    obtain ⟨k, hk, rfl, ea⟩ := inR_n c
    rw [ea]
    refine f_25 hk (i25 hI) fun σ1 f1 r1 => w_11 (Or.inr (Or.inr ⟨c, d, rfl, fun k j h1 h2 h3 h4 => ?_, rfl, fun c' hc => ?_⟩))
    · rw [s2_ne _ _ h4]; exact f1 k j h1 h2 h3
    · rw [← r1 c' hc]
      exact cls_ex (fun k j h1 h2 => s2_ne _ _ (by omega)) c'
theorem k_190l {a : Int32} {K : Int32 → St → Prop} (ha : a = 0 ∨ a = 1) {τ : St} (hK : ∀ σ', (∀ k j, ¬ k = 46 → σ' k j = τ k j) → (∀ j, j < 14 → σ' 46 j = τ 61 (15 * a.toNatClampNeg + j)) → K 1 (s2 (s2 σ' 39 12 (τ 61 (15 * a.toNatClampNeg + 14))) 39 32 0)) : ∀ (d i : Nat) {σ : St}, i + d = 14 → (∀ k j, ¬ k = 46 → σ k j = τ k j) → (∀ j, j < i → σ 46 j = τ 61 (15 * a.toNatClampNeg + j)) → PI 190 28 [some (.ref 39), some (.int a), some (.int (Int32.ofNat i))] [] σ K := by
  have l14 : (14 : Int32).toInt = 14 := rfl
  intro d
  induction d with
  | zero =>
    intro i σ hi hf hr
    refine w_190_28 ?_
    rw [if_pos (by rw [Int32.le_iff_toInt_le, l14, ti_of (by omega)]; omega)]
    refine ⟨m15 ha (i := 14) (by omega), ?_⟩
    have e := t15m ha (i := 14) (by omega)
    rw [show Int32.ofNat 14 = 14 from rfl] at e
    rw [e, hf 61 _ (by decide)]
    exact hK σ hf (fun j hj => hr j (by omega))
  | succ d ih =>
    intro i σ hi hf hr
    refine w_190_28 ?_
    rw [if_neg (by rw [Int32.le_iff_toInt_le, l14, ti_of (by omega)]; omega)]
    refine ⟨m15 ha (by omega), by rw [ti_of (by omega)]; omega, ?_⟩
    rw [t15m ha (by omega), tc_of (by omega), of_s, hf 61 _ (by decide)]
    refine ih (i + 1) (by omega) (fun k j hk => by rw [s2_ne _ _ (fun z => hk z.1)]; exact hf k j hk) (fun j hj => ?_)
    show (if j = i then τ 61 (15 * a.toNatClampNeg + i) else σ 46 j) = _
    by_cases c : j = i
    · rw [if_pos c, c]
    · rw [if_neg c]; exact hr j (by omega)
theorem k_190 {σ : St} {a : Int32} : CI 190 [.ref 39, .int a] σ (fun v σ' => (¬ inR 2 a ∧ v = -1000000001 ∧ σ' = σ) ∨ (inR 2 a ∧ σ 62 a.toNatClampNeg = 0 ∧ v = -1000000003 ∧ σ' = σ) ∨ (inR 2 a ∧ ¬ σ 62 a.toNatClampNeg = 0 ∧ v = 1 ∧ (∀ k j, ¬ k = 46 → ¬ (k = 39 ∧ (j = 12 ∨ j = 32)) → σ' k j = σ k j) ∧ σ' 39 32 = 0 ∧ σ' 39 12 = σ 61 (15 * a.toNatClampNeg + 14) ∧ ∀ j, j < 14 → σ' 46 j = σ 61 (15 * a.toNatClampNeg + j))) := by
  refine w_190 (s_109 (b := 0) (c := 1) (ite10 (fun c => ?_) (fun c => Or.inl ⟨fun z => c (in01.mpr z), rfl, rfl⟩)))
  have hr := in01.mp c
  refine ⟨by unfold inR at hr; omega, ?_⟩
  by_cases d : σ 62 a.toNatClampNeg = 0
  · rw [if_pos d]; exact Or.inr (Or.inl ⟨hr, d, rfl, rfl⟩)
  · rw [if_neg d]
    refine k_190l (two01 hr) (τ := σ) (fun σ' f r => Or.inr (Or.inr ⟨hr, d, rfl, fun k j h1 h2 => ?_, rfl, rfl, fun j hj => ?_⟩)) 14 0 (by omega) (fun _ _ _ => rfl) (fun j hj => absurd hj (Nat.not_lt_zero j))
    · rw [s2_ne _ _ (by omega), s2_ne _ _ (by omega)]; exact f k j h1
    · rw [s2_ne _ _ (by omega), s2_ne _ _ (by omega)]; exact r j hj
theorem JK_bit {σ : St} (hk : JK σ) {a : Int32} (c : inR 2 a) : (ush (σ 0 11) a &&& 1 = 0) ↔ (σ 62 a.toNatClampNeg = 0) := by
  rcases two01 c with rfl | rfl
  · show _ ↔ σ 62 0 = 0
    rcases hk with ⟨k1, k2, k3⟩ | ⟨k1, k2, k3⟩ | ⟨k1, k2, k3⟩ | ⟨k1, k2, k3⟩ <;> rw [k1, k2] <;> decide
  · show _ ↔ σ 62 1 = 0
    rcases hk with ⟨k1, k2, k3⟩ | ⟨k1, k2, k3⟩ | ⟨k1, k2, k3⟩ | ⟨k1, k2, k3⟩ <;> rw [k1, k3] <;> decide
theorem ag_goBack2 {D : Nat → Nat → Prop} (hD : HD D) {σ : St} {a : Int32} (hJ : J2 D σ) (j1 : CI 83 [.ref 0, .int a] σ (fun _ σ' => J σ')) (j2 : ∀ σ1, J σ1 → CI 190 [.ref 39, .int a] σ1 (fun _ σ' => J σ')) {K : Int32 → Int32 → St → Prop} (hK : ∀ v σ', J2 D σ' → K v v σ') : CI 83 [.ref 0, .int a] σ (fun v1 σ1 => CI 190 [.ref 39, .int a] σ1 (fun v2 σ2 => K v1 v2 σ2)) := by
  have hk := hJ.1.2.2.2.2.2.2
  refine (j1.and (k_83 hJ.1.1)).imp fun v1 σ1 ⟨J1, z1⟩ => ?_
  refine ((j2 _ J1).and k_190).imp fun v2 σ2 ⟨J2', z2⟩ => ?_
  have e62 : ∀ j, σ1 62 j = σ 62 j := fun j => by
    rcases z1 with ⟨-, -, rfl⟩ | ⟨-, -, -, rfl⟩ | ⟨-, -, -, f1, -⟩
    · rfl
    · rfl
    · exact f1 62 j (by omega) (by omega) (by omega) (by omega)
  rw [e62] at z2
  rcases z1 with ⟨no, rfl, rfl⟩ | ⟨ok, d, rfl, rfl⟩ | ⟨ok, d, rfl, f1, u1, r1⟩
  · rcases z2 with ⟨-, rfl, rfl⟩ | ⟨ok, -⟩ | ⟨ok, -⟩
    · exact hK _ _ hJ
    · exact absurd ok no
    · exact absurd ok no
  · rcases z2 with ⟨no, -⟩ | ⟨-, -, rfl, rfl⟩ | ⟨-, d2, -⟩
    · exact absurd ok no
    · exact hK _ _ hJ
    · exact absurd ((JK_bit hk ok).mp d) d2
  · rcases z2 with ⟨no, -⟩ | ⟨-, d2, -⟩ | ⟨-, d2, rfl, f2, u2, s2', r2⟩
    · exact absurd ok no
    · exact absurd ((JK_bit hk ok).mpr d2) d
    · obtain ⟨P, x, n, hx, hm, hu, hN, hi, hs, -, -⟩ := hJ.b
      obtain ⟨k, hk2, -, ea⟩ := inR_n ok
      rw [ea] at r1 r2 s2' d2
      have fr : ∀ k' j, ¬ k' = 19 → ¬ k' = 20 → ¬ k' = 21 → ¬ k' = 46 → ¬ (k' = 24 ∧ j = 2) → ¬ (k' = 39 ∧ (j = 12 ∨ j = 32)) → σ2 k' j = σ k' j := fun k' j b1 b2 b3 b4 b5 b6 => (f2 k' j b4 b6).trans (f1 k' j b1 b2 b3 b5)
      obtain ⟨q1, q2⟩ := hi k hk2 d2
      have ec : ∀ c, c < 15 → cls σ2 c = σ 26 (15 * k + c) := fun c hc => (cls_ex (σ := σ1) (fun k j h1 h2 => f2 k j (by omega) (by omega)) c).trans (r1 c hc)
      refine hK _ _ ⟨J2', P, XP_ex (fun k j hk => fr k j (by omega) (by omega) (by omega) (by omega) (by omega) (by omega)) hx, MPl_ex (fun k j hk => fr k j (by omega) (by omega) (by omega) (by omega) (by omega) (by omega)) hm, fun c hc => ?_, ⟨x, 0, ?_, hu.2.1, ?_, by omega, u2, fun k hk => absurd hk (Nat.not_lt_zero k)⟩, IMx_ex (fun j => fr 26 j (by omega) (by omega) (by omega) (by omega) (by omega) (by omega)) (fun j => fr 61 j (by omega) (by omega) (by omega) (by omega) (by omega) (by omega)) (fun j => fr 62 j (by omega) (by omega) (by omega) (by omega) (by omega) (by omega)) hi, ?_⟩
      · obtain ⟨c15, c4, -⟩ := hD.1 _ _ hc
        rw [ec c c15, r2 _ (mu_lt c15 c4), f1 61 _ (by omega) (by omega) (by omega) (by omega)]
        exact q1 c hc
      · rw [fr 24 1 (by omega) (by omega) (by omega) (by omega) (by omega) (by omega)]; exact hu.1
      · rw [f2 24 2 (by omega) (by omega)]; exact u1
      · have e4 : σ2 19 4 = cls σ2 4 := rfl
        rw [e4, ec 4 (by omega), s2', f1 61 _ (by omega) (by omega) (by omega) (by omega)]
        exact q2
