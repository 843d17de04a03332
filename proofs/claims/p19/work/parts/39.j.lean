/-! feed, survey, fault: the same answers -/
theorem T_of {σ : St} (hI : Inv σ) (hT : JT σ) : ∃ T, TX σ T ∧ TM σ T := by
  have b1 : 0 ≤ (σ 1 1).toInt ∧ (σ 1 1).toInt ≤ 240 := hI.1 1 1
  have e1 : σ 1 1 = Int32.ofNat (σ 1 1).toInt.toNat := (of_ti b1.1).symm
  refine ⟨fun i => if i < (σ 1 1).toInt.toNat then σ 2 i else -1, ⟨(σ 1 1).toInt.toNat, by omega, fun i hi => (hT.2 i hi).2, e1, rfl⟩, ⟨(σ 1 1).toInt.toNat, by omega, fun i hi => ?_, by rw [← hT.1]; exact e1, ?_⟩⟩
  · rw [← (hT.2 i hi).1]; exact (hT.2 i hi).2
  · funext i
    by_cases c : i < (σ 1 1).toInt.toNat
    · rw [if_pos c, if_pos c]; exact (hT.2 i c).1
    · rw [if_neg c, if_neg c]
/-- feed -/
def S54 (a : Int32) (σ : St) (v : Int32) (σ' : St) : Prop := (¬ (0 ≤ a ∧ a ≤ 255) ∧ v = -1000000002 ∧ σ' = σ) ∨ ((0 ≤ a ∧ a ≤ 255) ∧ (σ 1 1).toInt < 240 ∧ v = σ 1 1 + 1 ∧ σ' = s2 (s2 σ 2 (σ 1 1).toInt.toNat a) 1 1 (σ 1 1 + 1)) ∨ ((0 ≤ a ∧ a ≤ 255) ∧ (σ 1 1).toInt = 240 ∧ v = -1000000004 ∧ σ' = σ)
theorem s_54 {a : Int32} {σ : St} (hI : Inv σ) : CI 54 [.ref 0, .int a] σ (S54 a σ) := by
  have b1 : 0 ≤ (σ 1 1).toInt ∧ (σ 1 1).toInt ≤ 240 := hI.1 1 1
  have l240 : (240 : Int32).toInt = 240 := rfl
  refine w_54 (s_91 ?_)
  by_cases c : 0 ≤ a ∧ a ≤ 255
  · rw [if_pos c, if_neg (by decide)]
    refine w_22 ?_
    by_cases c2 : (σ 1 1).toInt < 240
    · rw [if_pos (by rw [Int32.lt_iff_toInt_lt, l240]; exact c2)]
      exact ⟨⟨b1.1, c2⟩, Or.inr (Or.inl ⟨c, c2, rfl, rfl⟩)⟩
    · rw [if_neg (by rw [Int32.lt_iff_toInt_lt, l240]; exact c2)]
      exact Or.inr (Or.inr ⟨c, by omega, rfl, rfl⟩)
  · rw [if_neg c, if_pos rfl]
    exact Or.inl ⟨c, rfl, rfl⟩
def S117 (a : Int32) (σ : St) (v : Int32) (σ' : St) : Prop := (¬ (0 ≤ a ∧ a ≤ 255) ∧ v = -1000000002 ∧ σ' = σ) ∨ ((0 ≤ a ∧ a ≤ 255) ∧ (σ 39 14).toInt < 240 ∧ v = σ 39 14 + 1 ∧ σ' = s2 (s2 σ 47 (σ 39 14).toInt.toNat a) 39 14 (σ 39 14 + 1)) ∨ ((0 ≤ a ∧ a ≤ 255) ∧ (σ 39 14).toInt = 240 ∧ v = -1000000004 ∧ σ' = σ)
theorem s_117 {a : Int32} {σ : St} (hI : Inv σ) : CI 117 [.ref 39, .int a] σ (S117 a σ) := by
  have b1 : 0 ≤ (σ 39 14).toInt ∧ (σ 39 14).toInt ≤ 240 := hI.1 39 14
  have l240 : (240 : Int32).toInt = 240 := rfl
  refine w_117 (s_109 (b := 0) (c := 255) ?_)
  by_cases c : 0 ≤ a ∧ a ≤ 255
  · rw [if_pos c, if_neg (by decide)]
    by_cases c2 : σ 39 14 = 240
    · rw [if_pos c2]
      exact Or.inr (Or.inr ⟨c, by rw [c2]; rfl, rfl, rfl⟩)
    · rw [if_neg c2]
      have c3 : (σ 39 14).toInt < 240 := by
        have : (σ 39 14).toInt ≠ 240 := fun e => c2 (ti_inj (e.trans l240.symm))
        omega
      exact ⟨⟨b1.1, c3⟩, Or.inr (Or.inl ⟨c, c3, rfl, rfl⟩)⟩
  · rw [if_neg c, if_pos rfl]
    exact Or.inl ⟨c, rfl, rfl⟩
theorem ag_feed {c1 c2 : Con} (hs1 : Sat c1) (hs2 : Sat c2) (e1 : c1.1 = 54) (e2 : c2.1 = 117) (p1 : cPr c1 = []) (p2 : cPr c2 = []) (g1 : cGp c1 = false) (g2 : cGp c2 = false) {a : Int32} (a1 : argsS (cAr c1) [.ref 0, .int a]) (a2 : argsS (cAr c2) [.ref 39, .int a]) {σ : St} (hJ : J σ) {K : Int32 → Int32 → St → Prop} (hK : ∀ v σ', J σ' → K v v σ') : CI 54 [.ref 0, .int a] σ (fun v1 σ1 => CI 117 [.ref 39, .int a] σ1 (fun v2 σ2 => K v1 v2 σ2)) := by
  have h1 := CI.con hs1 p1 g1 (by rw [show cY c1 = 54 from e1]; decide) a1 hJ.1
  rw [show cY c1 = 54 from e1] at h1
  refine (h1.and (s_54 hJ.1)).imp fun v1 σ1 ⟨⟨I1, _⟩, z1⟩ => ?_
  have h2 := CI.con hs2 p2 g2 (by rw [show cY c2 = 117 from e2]; decide) a2 I1
  rw [show cY c2 = 117 from e2] at h2
  refine (h2.and (s_117 I1)).imp fun v2 σ2 ⟨⟨I2, _⟩, z2⟩ => ?_
  obtain ⟨⟨t1, t2⟩, hrest⟩ := hJ.2
  have b1 : 0 ≤ (σ 1 1).toInt ∧ (σ 1 1).toInt ≤ 240 := hJ.1.1 1 1
  rcases z1 with ⟨c, rfl, rfl⟩ | ⟨c, d, rfl, rfl⟩ | ⟨c, d, rfl, rfl⟩
  · rcases z2 with ⟨c', rfl, rfl⟩ | ⟨c', -⟩ | ⟨c', -⟩
    · exact hK _ _ ⟨I2, ⟨t1, t2⟩, hrest⟩
    · exact absurd c' c
    · exact absurd c' c
  · have eM : (s2 (s2 σ 2 (σ 1 1).toInt.toNat a) 1 1 (σ 1 1 + 1)) 39 14 = σ 1 1 := t1.symm
    rcases z2 with ⟨c', -⟩ | ⟨c', d', rfl, rfl⟩ | ⟨c', d', -⟩
    · exact absurd c c'
    · rw [eM] at I2 ⊢
      refine hK _ _ ⟨I2, ⟨rfl, fun i hi => ?_⟩, ?_⟩
      · have l1 : (1 : Int32).toInt = 1 := rfl
        have hi2 : i < (σ 1 1 + 1).toInt.toNat := hi
        rw [ti_add (by rw [l1]; omega) (by rw [l1]; omega), l1] at hi2
        show (if i = (σ 1 1).toInt.toNat then a else σ 2 i) = (if i = (σ 1 1).toInt.toNat then a else σ 47 i) ∧ 0 ≤ (if i = (σ 1 1).toInt.toNat then a else σ 2 i).toInt
        by_cases ci : i = (σ 1 1).toInt.toNat
        · rw [if_pos ci, if_pos ci]; exact ⟨rfl, Int32.le_iff_toInt_le.mp c.1⟩
        · rw [if_neg ci, if_neg ci]; exact t2 i (by omega)
      · obtain ⟨⟨P, hx, hm⟩, h1, h2, h3, h4⟩ := hrest
        exact ⟨⟨P, hx, hm⟩, h1, h2, h3, h4⟩
    · rw [eM] at d'; omega
  · rcases z2 with ⟨c', -⟩ | ⟨c', d', -⟩ | ⟨c', d', rfl, rfl⟩
    · exact absurd c c'
    · rw [← t1] at d'; omega
    · exact hK _ _ ⟨I2, ⟨t1, t2⟩, hrest⟩
/-- survey -/
theorem ag_survey {c1 c2 : Con} (hs1 : Sat c1) (hs2 : Sat c2) (e1 : c1.1 = 55) (e2 : c2.1 = 132) (p1 : cPr c1 = []) (p2 : cPr c2 = []) (g1 : cGp c1 = false) (g2 : cGp c2 = false) (a1 : argsS (cAr c1) [.ref 0]) (a2 : argsS (cAr c2) [.ref 39]) {σ : St} (hJ : J σ) {K : Int32 → Int32 → St → Prop} (hK : ∀ v σ', J σ' → K v v σ') : CI 55 [.ref 0] σ (fun v1 σ1 => CI 132 [.ref 39] σ1 (fun v2 σ2 => K v1 v2 σ2)) := by
  obtain ⟨T, hX, hM⟩ := T_of hJ.1 hJ.2.1
  have b5 : 0 ≤ (σ 1 5).toInt := (hJ.1.1 1 5).1
  have h1 := CI.con hs1 p1 g1 (by rw [show cY c1 = 55 from e1]; decide) a1 hJ.1
  rw [show cY c1 = 55 from e1] at h1
  have s1 : CI 55 [.ref 0] σ (fun v σ' => ((pz T).1 = 0 ∧ FC σ σ' ∧ XP σ' (pz T).2.2 ∧ XS σ' (pz T).2.2 ∧ σ' 0 10 = -1 ∧ σ' 1 1 = 0 ∧ v = Int32.ofNat ((pz T).2.2.1 1)) ∨ (¬ (pz T).1 = 0 ∧ (∀ k j, ¬ (k = 0 ∧ j = 10) → ¬ k = 1 → (k < 3 ∨ 10 < k) → σ' k j = σ k j) ∧ σ' 0 10 = Int32.ofNat (pz T).2.1 ∧ σ' 1 1 = 0 ∧ v = (-10) - Int32.ofNat (pz T).1)) :=
    s_55 hX b5 (fun o σ' f x s e f1 => Or.inl ⟨o, f, x, s, e, f1, rfl⟩) (fun o _ σ' f e f1 => Or.inr ⟨o, f, e, f1, rfl⟩)
  refine (h1.and s1).imp fun v1 σ1 ⟨⟨I1, _⟩, z1⟩ => ?_
  have h2 := CI.con hs2 p2 g2 (by rw [show cY c2 = 132 from e2]; decide) a2 I1
  rw [show cY c2 = 132 from e2] at h2
  have hM1 : TM σ1 T := by
    have k39 : ∀ k j, 39 ≤ k → σ1 k j = σ k j := fun k j hk => by
      rcases z1 with ⟨-, f, -⟩ | ⟨-, f, -⟩
      · exact f k j (by omega)
      · exact f k j (by omega) (by omega) (by omega)
    obtain ⟨n, m1, m2, m3, m4⟩ := hM
    refine ⟨n, m1, fun i hi => by rw [k39 47 i (by omega)]; exact m2 i hi, by rw [k39 39 14 (by omega)]; exact m3, ?_⟩
    rw [m4]
    funext i
    rw [k39 47 i (by omega)]
  have s2 : CI 132 [.ref 39] σ1 (fun v σ' => ((pz T).1 = 0 ∧ FM1 σ1 σ' ∧ MPl σ' (pz T).2.2 ∧ MS σ' (pz T).2.2 ∧ σ' 39 15 = -1 ∧ σ' 39 14 = 0 ∧ v = Int32.ofNat ((pz T).2.2.1 1)) ∨ (¬ (pz T).1 = 0 ∧ (∀ k j, (k = 39 → j < 14 ∨ 28 < j) → (k < 48 ∨ 53 < k) → σ' k j = σ1 k j) ∧ σ' 39 15 = Int32.ofNat (pz T).2.1 ∧ σ' 39 14 = 0 ∧ v = (-10) - Int32.ofNat (pz T).1)) :=
    s_132 hM1 (fun o σ' f x s e f1 => Or.inl ⟨o, f, x, s, e, f1, rfl⟩) (fun o _ σ' f e f1 => Or.inr ⟨o, f, e, f1, rfl⟩)
  refine (h2.and s2).imp fun v2 σ2 ⟨⟨I2, _⟩, z2⟩ => ?_
  rcases z1 with ⟨o, f1, x1, st1, w1, n1, rfl⟩ | ⟨o, f1, w1, n1, rfl⟩
  · rcases z2 with ⟨-, f2, x2, st2, w2, n2, rfl⟩ | ⟨o', -⟩
    · have q : ∀ k j, k < 39 → σ2 k j = σ1 k j := fun k j hk => f2 k j (fun e => by omega) (by omega)
      refine hK _ _ ⟨I2, ⟨?_, fun i hi => ?_⟩, ⟨_, ?_, x2⟩, ?_, ?_, ?_, Or.inl ⟨?_, st2.2.2.2.2.2.2.2.2.2.1, st2.2.2.2.2.2.2.2.2.2.2⟩⟩
      · rw [q 1 1 (by omega), n1, n2]
      · rw [q 1 1 (by omega), n1] at hi
        exact absurd hi (Nat.not_lt_zero i)
      · obtain ⟨b0, a1, a2, a3, a4, a5, a6, a7⟩ := x1
        refine ⟨b0, by rw [q 11 0 (by omega)]; exact a1, by rw [q 11 1 (by omega)]; exact a2, by rw [q 11 2 (by omega)]; exact a3, by rw [q 11 3 (by omega)]; exact a4, fun j hj => ?_, fun j hj => ?_, fun j hj => ?_⟩
        · rw [q 12 j (by omega), q 13 j (by omega), q 14 j (by omega)]; exact a5 j hj
        · rw [q 16 j (by omega)]; exact a6 j hj
        · rw [q 18 j (by omega)]; exact a7 j hj
      · rw [q 0 10 (by omega), w1, w2]
      · rw [q 29 0 (by omega), st1.2.2.2.2.2.2.2.1, st2.2.2.2.2.2.2.2.1]
      · rw [q 29 1 (by omega), st1.2.2.2.2.2.2.2.2.1, st2.2.2.2.2.2.2.2.2.1]
      · rw [q 0 11 (by omega)]; exact st1.2.2.2.2.2.2.2.2.2
    · exact absurd o o'
  · rcases z2 with ⟨o', -⟩ | ⟨-, f2, w2, n2, rfl⟩
    · exact absurd o' o
    · have q : ∀ k j, k < 39 → σ2 k j = σ1 k j := fun k j hk => f2 k j (fun e => by omega) (by omega)
      have q0 : ∀ k j, ¬ (k = 0 ∧ j = 10) → ¬ k = 1 → (k < 3 ∨ 10 < k) → (k = 39 → j < 14 ∨ 28 < j) → (k < 48 ∨ 53 < k) → σ2 k j = σ k j := fun k j a b c d e => (f2 k j d e).trans (f1 k j a b c)
      obtain ⟨-, ⟨P, hx, hm⟩, g1, g2, g3, g4⟩ := hJ.2
      refine hK _ _ ⟨I2, ⟨?_, fun i hi => ?_⟩, ⟨P, ?_, ?_⟩, ?_, ?_, ?_, ?_⟩
      · rw [q 1 1 (by omega), n1, n2]
      · rw [q 1 1 (by omega), n1] at hi
        exact absurd hi (Nat.not_lt_zero i)
      · obtain ⟨b0, a1, a2, a3, a4, a5, a6, a7⟩ := hx
        have r : ∀ k j, 11 ≤ k → k ≤ 18 → σ2 k j = σ k j := fun k j h1 h2 => q0 k j (by omega) (by omega) (by omega) (by omega) (by omega)
        refine ⟨b0, by rw [r 11 0 (by omega) (by omega)]; exact a1, by rw [r 11 1 (by omega) (by omega)]; exact a2, by rw [r 11 2 (by omega) (by omega)]; exact a3, by rw [r 11 3 (by omega) (by omega)]; exact a4, fun j hj => ?_, fun j hj => ?_, fun j hj => ?_⟩
        · rw [r 12 j (by omega) (by omega), r 13 j (by omega) (by omega), r 14 j (by omega) (by omega)]; exact a5 j hj
        · rw [r 16 j (by omega) (by omega)]; exact a6 j hj
        · rw [r 18 j (by omega) (by omega)]; exact a7 j hj
      · obtain ⟨a1, a2, a3, a4, a5, a6, a7⟩ := hm
        have r : ∀ k j, (k = 39 → j < 14) → 39 ≤ k → k ≤ 45 → σ2 k j = σ k j := fun k j h0 h1 h2 => q0 k j (by omega) (by omega) (by omega) (fun e => Or.inl (h0 e)) (by omega)
        refine ⟨by rw [r 39 0 (by omega) (by omega) (by omega)]; exact a1, by rw [r 39 1 (by omega) (by omega) (by omega)]; exact a2, by rw [r 39 6 (by omega) (by omega) (by omega)]; exact a3, by rw [r 39 9 (by omega) (by omega) (by omega)]; exact a4, fun j hj => ?_, fun j hj => ?_, fun j hj => ?_⟩
        · rw [r 40 j (by omega) (by omega) (by omega), r 41 j (by omega) (by omega) (by omega), r 42 j (by omega) (by omega) (by omega)]; exact a5 j hj
        · rw [r 43 j (by omega) (by omega) (by omega)]; exact a6 j hj
        · rw [r 45 j (by omega) (by omega) (by omega)]; exact a7 j hj
      · rw [q 0 10 (by omega), w1, w2]
      · rw [q0 29 0 (by omega) (by omega) (by omega) (by omega) (by omega), q0 39 34 (by omega) (by omega) (by omega) (by omega) (by omega)]; exact g2
      · rw [q0 29 1 (by omega) (by omega) (by omega) (by omega) (by omega), q0 39 37 (by omega) (by omega) (by omega) (by omega) (by omega)]; exact g3
      · unfold JK
        rw [q0 0 11 (by omega) (by omega) (by omega) (by omega) (by omega), q0 62 0 (by omega) (by omega) (by omega) (by omega) (by omega), q0 62 1 (by omega) (by omega) (by omega) (by omega) (by omega)]; exact g4
