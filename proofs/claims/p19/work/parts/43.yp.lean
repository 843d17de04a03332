/-! all calls, over all that is shared -/
theorem bx_c {y1 : Nat} {vs1 : List Value} {md1 : List (Nat × Nat)} {am1 : List Nat} {σ : St} (hB : BX σ) (h1 : CI y1 vs1 σ (fun _ σ' => Inv σ' ∧ FrM md1 am1 σ σ')) (k1 : okX md1 am1 = true) : CI y1 vs1 σ (fun _ σ' => BX σ') := h1.imp fun _ _ h => BX_ex (okX_ok k1 h.2) hB
theorem bx_2 {y1 y2 : Nat} {vs1 vs2 : List Value} {md1 md2 : List (Nat × Nat)} {am1 am2 : List Nat} {σ : St} (c1 : CI y1 vs1 σ (fun _ σ' => BX σ')) (h1 : CI y1 vs1 σ (fun _ σ' => Inv σ' ∧ FrM md1 am1 σ σ')) (h2 : ∀ σ1, Inv σ1 → CI y2 vs2 σ1 (fun _ σ' => Inv σ' ∧ FrM md2 am2 σ1 σ')) (k2 : okX md2 am2 = true) : CI y1 vs1 σ (fun _ σ1 => CI y2 vs2 σ1 (fun _ σ2 => BX σ2)) := (c1.and h1).imp fun _ σ1 h => bx_c h.1 (h2 σ1 h.2.1) k2
theorem bk_2 {y1 y2 : Nat} {vs1 vs2 : List Value} {md1 md2 : List (Nat × Nat)} {am1 am2 : List Nat} {σ : St} (hB : BKr σ) (h1 : CI y1 vs1 σ (fun _ σ' => Inv σ' ∧ FrM md1 am1 σ σ')) (h2 : ∀ σ1, Inv σ1 → CI y2 vs2 σ1 (fun _ σ' => Inv σ' ∧ FrM md2 am2 σ1 σ')) (k1 : okK md1 am1 = true) (k2 : okK md2 am2 = true) : CI y1 vs1 σ (fun _ σ1 => CI y2 vs2 σ1 (fun _ σ2 => BKr σ2)) := h1.imp fun _ σ1 h => (h2 σ1 h.1).imp fun _ _ h' => BK_ex (okK_ok k2 h'.2) (BK_ex (okK_ok k1 h.2) hB)
theorem ag3 {y1 y2 : Nat} {vs1 vs2 : List Value} {σ : St} (ag : CI y1 vs1 σ (fun v1 σ1 => CI y2 vs2 σ1 (fun v2 σ2 => v2 = v1 ∧ J2 D1 σ2))) (bx : CI y1 vs1 σ (fun _ σ1 => CI y2 vs2 σ1 (fun _ σ2 => BX σ2))) (bk : CI y1 vs1 σ (fun _ σ1 => CI y2 vs2 σ1 (fun _ σ2 => BKr σ2))) {K : Int32 → Int32 → St → Prop} (hK : ∀ v σ', J3 σ' → K v v σ') : CI y1 vs1 σ (fun v1 σ1 => CI y2 vs2 σ1 (fun v2 σ2 => K v1 v2 σ2)) :=
  ag_imp (ag_and ag (ag_and bx bk)) (fun v1 v2 σ' h => by
    obtain ⟨⟨e, h1⟩, h2, h3⟩ := h
    rw [e]
    exact hK _ _ ⟨h1, h2, h3⟩)
theorem ag3o {y1 y2 : Nat} {vs1 vs2 : List Value} {σ : St} (ag : CI y1 vs1 σ (fun v1 σ1 => CI y2 vs2 σ1 (fun v2 σ2 => v2 = v1 ∧ J2 D1 σ2 ∧ BX σ2))) (bk : CI y1 vs1 σ (fun _ σ1 => CI y2 vs2 σ1 (fun _ σ2 => BKr σ2))) {K : Int32 → Int32 → St → Prop} (hK : ∀ v σ', J3 σ' → K v v σ') : CI y1 vs1 σ (fun v1 σ1 => CI y2 vs2 σ1 (fun v2 σ2 => K v1 v2 σ2)) :=
  ag3 (ag_imp ag fun _ _ _ h => ⟨h.1, h.2.1⟩) (ag_imp ag fun _ _ _ h => h.2.2) bk hK
theorem J3_call {c : Con} (hs : Sat c) (hp : cPr c = []) (hg : cGp c = false) (hk : mRK (cY c) ≠ 0) (hf : okB (cMd c) (cAm c) = true) (hf2 : okB2 (cMd c) (cAm c) = true) (hf3 : okX (cMd c) (cAm c) = true) (hf4 : okK (cMd c) (cAm c) = true) {vs : List Value} (ha : argsS (cAr c) vs) {σ : St} (hJ : J3 σ) {K : Int32 → St → Prop} (hK : ∀ v σ', J3 σ' → K v σ') : CI (cY c) vs σ K :=
  (CI.con hs hp hg hk ha hJ.1.1.1).imp fun v σ' h => hK v σ' ⟨J2_ex hJ.1 ⟨h.1, J_fr (okB_ok hf) h.2 hJ.1.1.2⟩ (okB2_ok hf2 h.2), BX_ex (okX_ok hf3 h.2) hJ.2.1, BK_ex (okK_ok hf4 h.2) hJ.2.2⟩
/-- readers -/
theorem ag_rd3 {y1 y2 : Nat} {vs1 vs2 : List Value} {md1 md2 : List (Nat × Nat)} {am1 am2 : List Nat} {σ : St} (hJ : J3 σ) (ag : CI y1 vs1 σ (fun v1 σ1 => CI y2 vs2 σ1 (fun v2 _ => v2 = v1))) (h1 : CI y1 vs1 σ (fun _ σ' => Inv σ' ∧ FrM md1 am1 σ σ')) (h2 : ∀ σ1, Inv σ1 → CI y2 vs2 σ1 (fun _ σ' => Inv σ' ∧ FrM md2 am2 σ1 σ')) (b1 : okB md1 am1 = true) (b2 : okB md2 am2 = true) (k1 : okB2 md1 am1 = true) (k2 : okB2 md2 am2 = true) (x1 : okX md1 am1 = true) (x2 : okX md2 am2 = true) (q1 : okK md1 am1 = true) (q2 : okK md2 am2 = true) {K : Int32 → Int32 → St → Prop} (hK : ∀ v σ', J3 σ' → K v v σ') : CI y1 vs1 σ (fun v1 σ1 => CI y2 vs2 σ1 (fun v2 σ2 => K v1 v2 σ2)) :=
  ag3 (ag_rd hJ.1 ag h1 h2 b1 b2 k1 k2 (K := fun v1 v2 σ' => v2 = v1 ∧ J2 D1 σ') (fun _ _ h => ⟨rfl, h⟩)) (bx_2 (bx_c hJ.2.1 h1 x1) h1 h2 x2) (bk_2 hJ.2.2 h1 h2 q1 q2) hK
/-- keep -/
theorem bx_keep {σ : St} {a : Int32} (hJ : J3 σ) : CI 82 [.ref 0, .int a] σ (fun _ σ1 => CI 189 [.ref 39, .int a] σ1 (fun _ σ2 => BX σ2)) := by
  obtain ⟨P, x, n, hx, hm, hu, hN, hi, hs, hb, hc, hB⟩ := hJ.b
  have h5 := hb.1
  refine (k_82 hJ.1.1.1).imp fun v1 σ1 z1 => ?_
  refine k_189.imp fun v2 σ2 z2 => ?_
  rcases z1 with ⟨no, -, rfl⟩ | ⟨ok, -, f1, u1, r1⟩
  · rcases z2 with ⟨-, -, rfl⟩ | ⟨ok, -⟩
    · exact hJ.2.1
    · exact absurd ok no
  · rcases z2 with ⟨no, -⟩ | ⟨-, -, f2, u2, r2, r3, r4⟩
    · exact absurd ok no
    · obtain ⟨k, hk, -, ea⟩ := inR_n ok
      rw [ea] at r1 f2
      have fr : ∀ k' j, ¬ k' = 26 → ¬ k' = 61 → ¬ k' = 62 → ¬ (k' = 0 ∧ j = 11) → ¬ (k' = 24 ∧ j = 2) → ¬ (k' = 39 ∧ j = 32) → σ2 k' j = σ k' j := fun k' j b1 b2 b3 b4 b5 b6 => (f2 k' j b2 (fun z => b3 z.1) b6).trans (f1 k' j b1 b4 b5)
      obtain ⟨b1, b2, b3, -, b5⟩ := hB
      have e15 : σ2 15 = σ 15 := funext fun j => fr 15 j (by omega) (by omega) (by omega) (by omega) (by omega) (by omega)
      refine ⟨P, XP_ex (fun k j hk => fr k j (by omega) (by omega) (by omega) (by omega) (by omega) (by omega)) hx, b1, by rw [e15]; exact b2, ?_, ⟨x, 0, ?_, hb.2.2.1, ?_, by omega, fun k hk => absurd hk (Nat.not_lt_zero k)⟩, fun i hi2 h0 => ?_⟩
      · rw [cls_fx (σ := σ) (fun k j h1 h2 => fr k j (by omega) (by omega) (by omega) (by omega) (by omega) (by omega))]
        exact b3
      · rw [fr 24 1 (by omega) (by omega) (by omega) (by omega) (by omega) (by omega)]
        exact hb.2.2.2.2.2.2.2.1
      · rw [f2 24 2 (by omega) (by omega) (by omega)]; exact u1
      · have e26 : ∀ c, σ2 26 (15 * i + c) = σ1 26 (15 * i + c) := fun c => f2 26 _ (by omega) (by omega) (by omega)
        by_cases ci : i = k
        · refine BG_cg b3 h5 fun c hc => ?_
          show σ2 26 (15 * i + c) = cls σ c
          rw [e26, r1, if_pos (by omega)]
          congr 1
          omega
        · rw [f2 62 i (by omega) (by omega) (by omega), f1 62 i (by omega) (by omega) (by omega)] at h0
          refine BG_cg (b5 i hi2 h0) h5 fun c hc => ?_
          show σ2 26 (15 * i + c) = σ 26 (15 * i + c)
          rw [e26, r1, if_neg (by omega)]
/-- goBack -/
theorem bx_goBack {σ : St} {a : Int32} (hJ : J3 σ) : CI 83 [.ref 0, .int a] σ (fun _ σ' => BX σ') := by
  obtain ⟨P, x, n, hx, hm, hu, hN, hi, hs, hb, hc, hB⟩ := hJ.b
  have h5 := hb.1
  have hk := hJ.1.1.2.2.2.2.2.2
  refine (k_83 hJ.1.1.1).imp fun v1 σ1 z1 => ?_
  rcases z1 with ⟨-, -, rfl⟩ | ⟨-, -, -, rfl⟩ | ⟨ok, d, -, f1, u1, r1⟩
  · exact hJ.2.1
  · exact hJ.2.1
  · have d2 : ¬ σ 62 a.toNatClampNeg = 0 := fun z => d ((JK_bit hk ok).mpr z)
    obtain ⟨k, hk2, -, ea⟩ := inR_n ok
    rw [ea] at r1 d2
    obtain ⟨b1, b2, b3, -, b5⟩ := hB
    have e15 : σ1 15 = σ 15 := funext fun j => f1 15 j (by omega) (by omega) (by omega) (by omega)
    refine ⟨P, XP_ex (fun k j hk => f1 k j (by omega) (by omega) (by omega) (by omega)) hx, b1, by rw [e15]; exact b2, BG_cg (b5 k hk2 d2) h5 fun c hc => r1 c (by omega), ⟨x, 0, ?_, hb.2.2.1, u1, by omega, fun k hk => absurd hk (Nat.not_lt_zero k)⟩, fun i hi2 h0 => ?_⟩
    · rw [f1 24 1 (by omega) (by omega) (by omega) (by omega)]
      exact hb.2.2.2.2.2.2.2.1
    · rw [f1 62 i (by omega) (by omega) (by omega) (by omega)] at h0
      exact BG_cg (b5 i hi2 h0) h5 fun c _ => f1 26 _ (by omega) (by omega) (by omega) (by omega)
/-- survey -/
theorem bxk_survey {σ : St} (hJ : J3 σ) (j1 : CI 55 [.ref 0] σ (fun _ σ' => Inv σ')) : CI 55 [.ref 0] σ (fun _ σ1 => CI 132 [.ref 39] σ1 (fun _ σ2 => BX σ2 ∧ BKr σ2)) := by
  obtain ⟨T, hX, hM⟩ := T_of hJ.1.1.1 hJ.1.1.2.1
  have b5 : 0 ≤ (σ 1 5).toInt := (hJ.1.1.1.1 1 5).1
  have s1 : CI 55 [.ref 0] σ (fun v σ' => ((pz T).1 = 0 ∧ FC σ σ' ∧ XP σ' (pz T).2.2 ∧ XS σ' (pz T).2.2) ∨ (¬ (pz T).1 = 0 ∧ (∀ k j, ¬ (k = 0 ∧ j = 10) → ¬ k = 1 → (k < 3 ∨ 10 < k) → σ' k j = σ k j))) :=
    s_55 hX b5 (fun o σ' f x s e f1 => Or.inl ⟨o, f, x, s⟩) (fun o _ σ' f e f1 => Or.inr ⟨o, f⟩)
  refine ((CI.and j1 (CI.and s1 (s_55k hX b5)))).imp fun v1 σ1 ⟨I1, z1, lk⟩ => ?_
  have hM1 : TM σ1 T := by
    have k39 : ∀ k j, 39 ≤ k → σ1 k j = σ k j := fun k j hk => by
      rcases z1 with ⟨-, f, -⟩ | ⟨-, f⟩
      · exact f k j (by omega)
      · exact f k j (by omega) (by omega) (by omega)
    obtain ⟨n, m1, m2, m3, m4⟩ := hM
    refine ⟨n, m1, fun i hi => by rw [k39 47 i (by omega)]; exact m2 i hi, by rw [k39 39 14 (by omega)]; exact m3, ?_⟩
    rw [m4]
    funext i
    rw [k39 47 i (by omega)]
  have s2 : CI 132 [.ref 39] σ1 (fun v σ' => ((pz T).1 = 0 ∧ FM1 σ1 σ' ∧ MPl σ' (pz T).2.2 ∧ MS σ' (pz T).2.2) ∨ (¬ (pz T).1 = 0 ∧ (∀ k j, (k = 39 → j < 14 ∨ 28 < j) → (k < 48 ∨ 53 < k) → σ' k j = σ1 k j))) :=
    s_132 hM1 (fun o σ' f x s e f1 => Or.inl ⟨o, f, x, s⟩) (fun o _ σ' f e f1 => Or.inr ⟨o, f⟩)
  refine s2.imp fun v2 σ2 z2 => ?_
  rcases z1 with ⟨o, f1, x1, st1⟩ | ⟨o, f1⟩
  · rcases z2 with ⟨-, f2, x2, st2⟩ | ⟨o', -⟩
    · have q : ∀ k j, k < 39 → σ2 k j = σ1 k j := fun k j hk => f2 k j (fun e => by omega) (by omega)
      have hz := pz_z o
      obtain ⟨a1, a2, a3, a4, a5, a6, a7, a8, a9, -⟩ := st1
      obtain ⟨-, -, -, -, -, -, -, -, -, c8, c9⟩ := st2
      have r24 : 0 ≤ (σ1 24 1).toInt ∧ (σ1 24 1).toInt ≤ 15 := I1.1 24 1
      have h5 := x1.1.2.2.1
      refine ⟨⟨_, XP_ex (fun k j hk => q k j (by omega)) x1, hz.2.1, ?_, ⟨fun i hi => ?_, fun m hm i hi => ?_, ?_⟩, ⟨(σ1 24 1).toInt.toNat, 0, ?_, by omega, ?_, by omega, fun k hk => absurd hk (Nat.not_lt_zero k)⟩, fun i hi h0 => ?_⟩, fun j hj => ?_, fun j hj => ?_⟩
      · have e15 : σ2 15 = σ1 15 := funext fun j => q 15 j (by omega)
        rw [e15]
        exact lk o
      · rw [show cls σ2 0 = σ2 19 0 from rfl, q 19 0 (by omega), a1]
        exact hz.2.2.1 i hi
      · rw [cls5 (by omega), q 20 m (by omega), a5 m hm]
        exact hz.2.2.2 m hm i hi
      · rw [show cls σ2 3 = σ2 19 3 from rfl, q 19 3 (by omega), a4]
        decide
      · rw [q 24 1 (by omega)]; exact (of_ti r24.1).symm
      · rw [q 24 2 (by omega)]; exact a7
      · have ci : i = 0 ∨ i = 1 := by omega
        rcases ci with rfl | rfl
        · exact absurd c8 h0
        · exact absurd c9 h0
      · rw [q 29 0 (by omega), a8] at hj
        exact absurd hj (Nat.not_lt_zero j)
      · rw [q 29 1 (by omega), a9] at hj
        exact absurd hj (Nat.not_lt_zero j)
    · exact absurd o o'
  · rcases z2 with ⟨o', -⟩ | ⟨-, f2⟩
    · exact absurd o' o
    · refine ⟨BX_ex (fun k j hk => (f2 k j (fun e => by unfold SXp at hk; omega) (by unfold SXp at hk; omega)).trans (f1 k j (by unfold SXp at hk; omega) (by unfold SXp at hk; omega) (by unfold SXp at hk; omega))) hJ.2.1, BK_ex (fun k j hk => (f2 k j (fun e => by unfold SKp at hk; omega) (by unfold SKp at hk; omega)).trans (f1 k j (by unfold SKp at hk; omega) (by unfold SKp at hk; omega) (by unfold SKp at hk; omega))) hJ.2.2⟩
/-- journey, write, tear -/
theorem bk_journey {σ : St} {a b : Int32} (hJ : J3 σ) : CI 77 [.ref 0, .int a, .int b] σ (fun _ σ1 => CI 184 [.ref 39, .int a, .int b] σ1 (fun _ σ2 => BKr σ2)) := by
  obtain ⟨P, x, n, hx, hm, hu, hN, hi, hs, hb, hc, hB⟩ := hJ.b
  have h8 := hx.1.1
  have hI := hJ.1.1.1
  have q : σ 29 0 = σ 39 34 := hJ.1.1.2.2.2.2.1
  have r : 0 ≤ (σ 29 0).toInt ∧ (σ 29 0).toInt ≤ 4 := hI.1 29 0
  have l4 : (4 : Int32).toInt = 4 := rfl
  have l1 : (1 : Int32).toInt = 1 := rfl
  have ep : (σ 11 0).toNatClampNeg = P.1 0 := by rw [hx.2.1, tc_of (by omega)]
  have S2 : ∀ σ1, MPl σ1 P → σ1 39 34 = σ 29 0 → CI 184 [.ref 39, .int a, .int b] σ1 (fun _ σ2 => ((twoR (P.1 0) a b ∧ (σ 29 0).toInt < 4) ∧ σ2 = s2 (s2 (s2 σ1 57 (σ 29 0).toNatClampNeg a) 58 (σ 29 0).toNatClampNeg b) 39 34 (σ 29 0 + 1)) ∨ (¬ (twoR (P.1 0) a b ∧ (σ 29 0).toInt < 4) ∧ σ2 = σ1)) := fun σ1 m1 e1 => by
    refine w_184 (s_113 m1.1 h8 (ite10 (fun c => ?_) (fun c => Or.inr ⟨fun z => c z.1, rfl⟩)))
    rw [e1]
    by_cases c4 : σ 29 0 = 4
    · rw [if_pos c4]; exact Or.inr ⟨fun z => by rw [c4, l4] at z; omega, rfl⟩
    · rw [if_neg c4]
      have lt : (σ 29 0).toInt < 4 := by
        have : (σ 29 0).toInt ≠ 4 := fun e => c4 (ti_inj (e.trans l4.symm))
        omega
      exact ⟨⟨r.1, lt⟩, Or.inl ⟨⟨c, lt⟩, rfl⟩⟩
  refine w_77 (s_89 hx.2.1 h8 (ite10 (fun c => w_1 ?_) (fun c => (S2 σ hm q.symm).imp fun _ σ2 z => ?_)))
  · by_cases c4 : (σ 29 0).toInt < 4
    · rw [if_pos (by rw [Int32.lt_iff_toInt_lt, l4]; exact c4)]
      refine ⟨⟨r.1, c4⟩, (S2 _ (MPl_ex (fun k j hk => by rw [s2_ne _ _ (by omega), s2_ne _ _ (by omega), s2_ne _ _ (by omega)]) hm) ?_).imp fun _ σ2 z => ?_⟩
      · rw [s2_ne _ _ (by omega), s2_ne _ _ (by omega), s2_ne _ _ (by omega)]; exact q.symm
      · rcases z with ⟨-, rfl⟩ | ⟨no, -⟩
        · have nn : (σ 29 0 + 1).toNatClampNeg = (σ 29 0).toNatClampNeg + 1 := by rw [tc_ti, tc_ti, ti_add (by rw [l1]; omega) (by rw [l1]; omega), l1]; omega
          refine ⟨fun j hj => ?_, fun j hj => hJ.2.2.2 j hj⟩
          have hj2 : j < (σ 29 0).toNatClampNeg + 1 := by rw [← nn]; exact hj
          show (if j = (σ 29 0).toNatClampNeg then a else σ 30 j) = (if j = (σ 29 0).toNatClampNeg then a else σ 57 j) ∧ (if j = (σ 29 0).toNatClampNeg then b else σ 31 j) = (if j = (σ 29 0).toNatClampNeg then b else σ 58 j) ∧ inR (σ 11 0).toNatClampNeg (if j = (σ 29 0).toNatClampNeg then a else σ 30 j) ∧ inR (σ 11 0).toNatClampNeg (if j = (σ 29 0).toNatClampNeg then b else σ 31 j)
          by_cases e : j = (σ 29 0).toNatClampNeg
          · rw [if_pos e, if_pos e, if_pos e, if_pos e, ep]
            exact ⟨rfl, rfl, c.1, c.2.1⟩
          · rw [if_neg e, if_neg e, if_neg e, if_neg e]
            exact hJ.2.2.1 j (by omega)
        · exact absurd ⟨c, c4⟩ no
    · rw [if_neg (by rw [Int32.lt_iff_toInt_lt, l4]; exact c4)]
      refine (S2 σ hm q.symm).imp fun _ σ2 z => ?_
      rcases z with ⟨y, -⟩ | ⟨-, rfl⟩
      · exact absurd y.2 c4
      · exact hJ.2.2
  · rcases z with ⟨y, -⟩ | ⟨-, rfl⟩
    · exact absurd y.1 c
    · exact hJ.2.2
theorem bk_write {σ : St} {a b : Int32} (hJ : J3 σ) : CI 78 [.ref 0, .int a, .int b] σ (fun _ σ1 => CI 185 [.ref 39, .int a, .int b] σ1 (fun _ σ2 => BKr σ2)) := by
  obtain ⟨P, x, n, hx, hm, hu, hN, hi, hs, hb, hc, hB⟩ := hJ.b
  have h5 := hb.1
  have hI := hJ.1.1.1
  have q : σ 29 1 = σ 39 37 := hJ.1.1.2.2.2.2.2.1
  have r : 0 ≤ (σ 29 1).toInt ∧ (σ 29 1).toInt ≤ 15 := hI.1 29 1
  have l15 : (15 : Int32).toInt = 15 := rfl
  have l1 : (1 : Int32).toInt = 1 := rfl
  have ep : (σ 11 2).toNatClampNeg = P.1 2 := by rw [hx.2.2.2.1, tc_of (by omega)]
  have S2 : ∀ σ1, MPl σ1 P → σ1 39 37 = σ 29 1 → CI 185 [.ref 39, .int a, .int b] σ1 (fun _ σ2 => ((inR (P.1 2) a ∧ (0 ≤ b ∧ b ≤ 99999) ∧ (σ 29 1).toInt < 15) ∧ σ2 = s2 (s2 (s2 σ1 59 (σ 29 1).toNatClampNeg a) 60 (σ 29 1).toNatClampNeg b) 39 37 (σ 29 1 + 1)) ∨ (¬ (inR (P.1 2) a ∧ (0 ≤ b ∧ b ≤ 99999) ∧ (σ 29 1).toInt < 15) ∧ σ2 = σ1)) := fun σ1 m1 e1 => by
    refine w_185 (s_115 m1.2.2.1 h5 (ite10 (fun c => s_109 (b := 0) (c := 99999) (ite10 (fun c2 => ?_) (fun c2 => Or.inr ⟨fun z => c2 z.2.1, rfl⟩))) (fun c => Or.inr ⟨fun z => c z.1, rfl⟩)))
    rw [e1]
    by_cases c4 : σ 29 1 = 15
    · rw [if_pos c4]; exact Or.inr ⟨fun z => by rw [c4, l15] at z; omega, rfl⟩
    · rw [if_neg c4]
      have lt : (σ 29 1).toInt < 15 := by
        have : (σ 29 1).toInt ≠ 15 := fun e => c4 (ti_inj (e.trans l15.symm))
        omega
      exact ⟨⟨r.1, lt⟩, Or.inl ⟨⟨c, c2, lt⟩, rfl⟩⟩
  have no : ¬ (inR (P.1 2) a ∧ (0 ≤ b ∧ b ≤ 99999) ∧ (σ 29 1).toInt < 15) → CI 185 [.ref 39, .int a, .int b] σ (fun _ σ2 => BKr σ2) := fun h => (S2 σ hm q.symm).imp fun _ σ2 z => by
    rcases z with ⟨y, -⟩ | ⟨-, rfl⟩
    · exact absurd y h
    · exact hJ.2.2
  refine w_78 (s_86 hx.2.2.2.1 h5 (ite10 (fun c => s_91 (ite10 (fun c2 => w_2 ?_) (fun c2 => no (fun z => c2 z.2.1)))) (fun c => no (fun z => c z.1))))
  by_cases c4 : (σ 29 1).toInt < 15
  · rw [if_pos (by rw [Int32.lt_iff_toInt_lt, l15]; exact c4)]
    refine ⟨⟨r.1, c4⟩, (S2 _ (MPl_ex (fun k j hk => by rw [s2_ne _ _ (by omega), s2_ne _ _ (by omega), s2_ne _ _ (by omega)]) hm) ?_).imp fun _ σ2 z => ?_⟩
    · rw [s2_ne _ _ (by omega), s2_ne _ _ (by omega), s2_ne _ _ (by omega)]; exact q.symm
    · rcases z with ⟨-, rfl⟩ | ⟨no', -⟩
      · have nn : (σ 29 1 + 1).toNatClampNeg = (σ 29 1).toNatClampNeg + 1 := by rw [tc_ti, tc_ti, ti_add (by rw [l1]; omega) (by rw [l1]; omega), l1]; omega
        refine ⟨fun j hj => hJ.2.2.1 j hj, fun j hj => ?_⟩
        have hj2 : j < (σ 29 1).toNatClampNeg + 1 := by rw [← nn]; exact hj
        show (if j = (σ 29 1).toNatClampNeg then a else σ 32 j) = (if j = (σ 29 1).toNatClampNeg then a else σ 59 j) ∧ (if j = (σ 29 1).toNatClampNeg then b else σ 33 j) = (if j = (σ 29 1).toNatClampNeg then b else σ 60 j) ∧ inR (σ 11 2).toNatClampNeg (if j = (σ 29 1).toNatClampNeg then a else σ 32 j)
        by_cases e : j = (σ 29 1).toNatClampNeg
        · rw [if_pos e, if_pos e, if_pos e, if_pos e, ep]
          exact ⟨rfl, rfl, c⟩
        · rw [if_neg e, if_neg e, if_neg e, if_neg e]
          exact hJ.2.2.2 j (by omega)
      · exact absurd ⟨c, c2, c4⟩ no'
  · rw [if_neg (by rw [Int32.lt_iff_toInt_lt, l15]; exact c4)]
    exact no (fun z => c4 z.2.2)
theorem bk_tear {σ : St} : CI 79 [.ref 0] σ (fun _ σ1 => CI 186 [.ref 39] σ1 (fun _ σ2 => BKr σ2)) :=
  w_79 (w_0 (w_186 ⟨fun j hj => absurd (show j < 0 from hj) (Nat.not_lt_zero j), fun j hj => absurd (show j < 0 from hj) (Nat.not_lt_zero j)⟩))
