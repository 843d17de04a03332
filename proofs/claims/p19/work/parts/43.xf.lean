/-! a deed that is remembered -/
theorem CV.imp {y : Nat} {vs : List Value} {σ : St} {K K' : St → Prop} (h : CV y vs σ K) (k : ∀ σ', K σ' → K' σ') : CV y vs σ K' := PW.mono h (fun _ σ' ⟨e, z⟩ => ⟨e, k σ' z⟩)
theorem CV.and {y : Nat} {vs : List Value} {σ : St} {K K' : St → Prop} (h : CV y vs σ K) (h' : CV y vs σ K') : CV y vs σ (fun σ' => K σ' ∧ K' σ') := PW.mono (PW.both h h') (fun _ σ' ⟨⟨e, z⟩, ⟨_, z'⟩⟩ => ⟨e, z, z'⟩)
theorem CV.con {c : Con} (hs : Sat c) (hp : cPr c = []) (hg : cGp c = false) (hk : mRK (cY c) = 0) {vs : List Value} (ha : argsS (cAr c) vs) {σ : St} (hI : Inv σ) : CV (cY c) vs σ (fun σ' => Inv σ' ∧ FrM (cMd c) (cAm c) σ σ') :=
  PW.mono (hs vs σ hI ha (by rw [hp]; exact fun f hf => absurd hf List.not_mem_nil) (by rw [hg]; exact fun e => by cases e)) (fun _ σ' ⟨a, b, c1, _⟩ => ⟨c1.1 hk, a, b⟩)
/-- a call that changes nothing -/
theorem CI.pur {c : Con} (hs : Sat c) (hp : cPr c = []) (hg : cGp c = false) (hk : mRK (cY c) ≠ 0) (hm : cMd c = []) (hn : cAm c = []) {vs : List Value} (ha : argsS (cAr c) vs) {σ : St} (hI : Inv σ) {K : Int32 → St → Prop} (hK : ∀ v, K v σ) : CI (cY c) vs σ K :=
  (CI.con hs hp hg hk ha hI).imp fun v σ' h => by
    have e : σ' = σ := by
      funext k j
      have h2 := h.2
      rw [hm, hn] at h2
      exact h2 k j rfl rfl
    rw [e]
    exact hK v
/-- what class and reference make of a deed: the past, all else as it was, the cells V -/
def CO (D : Nat → Nat → Prop) (M x n : Nat) (σ : St) (V : Nat → Int32) (σ' : St) : Prop := RC x n σ σ' ∧ (∀ k j, ¬ (19 ≤ k ∧ k ≤ 21) → ¬ k = 23 → ¬ k = 24 → ¬ k = 28 → σ' k j = σ k j) ∧ (∀ c, D M c → cls σ' c = V c) ∧ σ' 19 4 = V 4
def MO (D : Nat → Nat → Prop) (M n : Nat) (σ : St) (V : Nat → Int32) (σ' : St) : Prop := RMm n σ σ' ∧ (∀ k j, ¬ k = 46 → ¬ k = 56 → ¬ k = 54 → ¬ k = 55 → ¬ (k = 39 ∧ (j = 32 ∨ j = 12)) → σ' k j = σ k j) ∧ (∀ c, D M c → σ' 46 (mu c) = V c) ∧ σ' 39 12 = V 4
theorem ag_op {D : Nat → Nat → Prop} (hD : HD D) {y1 y2 : Nat} {vs1 vs2 : List Value} {σ : St} (hJ : J2 D σ) (j1 : CI y1 vs1 σ (fun _ σ' => J σ')) (j2 : ∀ σ1, J σ1 → CI y2 vs2 σ1 (fun _ σ' => J σ'))
    (S : ∀ P x n, XP σ P → MPl σ P → B2 σ (P.1 2) (P.1 1) x n → C2 σ (P.1 2) (P.1 1) n → (∀ c, D (P.1 2) c → cls σ c = σ 46 (mu c)) → σ 19 4 = σ 39 12 → ∃ (p : Prop) (V : Nat → Int32), CI y1 vs1 σ (fun _ σ' => (¬ p ∧ ∀ k j, ¬ k = 28 → σ' k j = σ k j) ∨ (p ∧ CO D (P.1 2) x n σ V σ')) ∧ ∀ σ1, J σ1 → (∀ k j, 39 ≤ k → σ1 k j = σ k j) → CI y2 vs2 σ1 (fun _ σ' => (¬ p ∧ ∀ k j, ¬ k = 54 → ¬ k = 55 → σ' k j = σ1 k j) ∨ (p ∧ MO D (P.1 2) n σ1 V σ')))
    {K : Int32 → Int32 → St → Prop} (hK : ∀ v1 v2 σ', J2 D σ' → K v1 v2 σ') : CI y1 vs1 σ (fun v1 σ1 => CI y2 vs2 σ1 (fun v2 σ2 => K v1 v2 σ2)) := by
  obtain ⟨P, x, n, hx, hm, hu, hN, hi, hs, hb, hc⟩ := hJ.b
  obtain ⟨p, V, S1, S2⟩ := S P x n hx hm hb hc hN hs
  refine (j1.and S1).imp fun v1 σ1 ⟨J1, z1⟩ => ?_
  have e39 : ∀ k j, 39 ≤ k → σ1 k j = σ k j := fun k j hk => by
    rcases z1 with ⟨-, f⟩ | ⟨-, -, f, -⟩
    · exact f k j (by omega)
    · exact f k j (by omega) (by omega) (by omega) (by omega)
  refine ((j2 _ J1).and (S2 σ1 J1 e39)).imp fun v2 σ2 ⟨J2', z2⟩ => hK _ _ _ ?_
  rcases z1 with ⟨no, f1⟩ | ⟨ok, rc, f1, r1, s1⟩
  · rcases z2 with ⟨-, f2⟩ | ⟨ok, -⟩
    · exact J2_ex hJ J2' (fun k j hk => (f2 k j (by unfold S2p at hk; omega) (by unfold S2p at hk; omega)).trans (f1 k j (by unfold S2p at hk; omega)))
    · exact absurd ok no
  · rcases z2 with ⟨no, -⟩ | ⟨-, rm, f2, r2, s2'⟩
    · exact absurd ok no
    · refine J2_rem hD hx hm hu hN hi J2' (RC_ex rc (fun j => f2 23 j (by omega) (by omega) (by omega) (by omega) (by omega)) (fun j => f2 24 j (by omega) (by omega) (by omega) (by omega) (by omega))) (RM_ex rm (fun j => e39 46 j (by omega)) (fun j => e39 56 j (by omega))) (fun k j hk => (f2 k j (by omega) (by omega) (by omega) (by omega) (by omega)).trans (f1 k j (by omega) (by omega) (by omega) (by omega))) (fun c hc => ?_) ?_
      · rw [cls_ex (σ := σ1) (fun k j h1 h2 => f2 k j (by omega) (by omega) (by omega) (by omega) (by omega)) c, r1 c hc, r2 c hc]
      · rw [f2 19 4 (by omega) (by omega) (by omega) (by omega) (by omega), s1, s2']
/-- remembered, and the invariant -/
theorem s_9I {σ : St} {M L x n : Nat} {K : St → Prop} (hI : Inv σ) (hb : B2 σ M L x n) (hK : ∀ σ', Inv σ' → RC x n σ σ' → (∀ k j, ¬ k = 23 → ¬ (k = 24 ∧ (j = 1 ∨ j = 2)) → σ' k j = σ k j) → K σ') : CV 9 [.ref 24, .ref 19] σ K := by
  obtain ⟨hM, hL, hx, hn, e2, e1, h22, g1, g2⟩ := hb
  have h := CV.con (c := con_25) sat_25 rfl rfl rfl (vs := [.ref 24, .ref 19]) (by exact ⟨rfl, rfl, trivial⟩) hI
  exact (CV.and h (s_9 (K := fun σ' => RC x n σ σ' ∧ ∀ k j, ¬ k = 23 → ¬ (k = 24 ∧ (j = 1 ∨ j = 2)) → σ' k j = σ k j) h22 hx hn g1 g2 (fun σ' r f => ⟨r, f⟩))).imp fun σ' ⟨⟨I, _⟩, r, f⟩ => hK σ' I r f
theorem s_153I {σ : St} {M L n : Nat} {K : St → Prop} (hI : Inv σ) (hc : C2 σ M L n) (hK : ∀ σ', Inv σ' → RMm n σ σ' → (∀ k j, ¬ k = 56 → ¬ (k = 39 ∧ j = 32) → σ' k j = σ k j) → K σ') : CV 153 [.ref 39] σ K := by
  have h := CV.con (c := con_103) sat_103 rfl rfl rfl (vs := [.ref 39]) (by exact ⟨rfl, trivial⟩) hI
  exact (CV.and h (s_153 (K := fun σ' => RMm n σ σ' ∧ ∀ k j, ¬ k = 56 → ¬ (k = 39 ∧ j = 32) → σ' k j = σ k j) hc.2.2.1 hc.2.2.2.2.2 (fun σ' r f => ⟨r, f⟩))).imp fun σ' ⟨⟨I, _⟩, r, f⟩ => hK σ' I r f
theorem CO0 {M x n : Nat} {σ σ1 σ' : St} (hM : M ≤ 5) (r : RC x n σ σ1) (f : ∀ k j, ¬ k = 23 → ¬ (k = 24 ∧ (j = 1 ∨ j = 2)) → ¬ k = 28 → σ1 k j = σ k j) (g : ∀ k j, ¬ k = 21 → ¬ (k = 19 ∧ (j = 2 ∨ j = 3)) → ¬ k = 28 → σ' k j = σ1 k j) : CO D0 M x n σ (cls σ) σ' := by
  refine ⟨RC_ex r (fun j => g 23 j (by omega) (by omega) (by omega)) (fun j => g 24 j (by omega) (by omega) (by omega)), fun k j h1 h2 h3 h4 => (g k j (by omega) (by omega) h4).trans (f k j h2 (by omega) h4), fun c hc => ?_, (g 19 4 (by omega) (by omega) (by omega)).trans (f 19 4 (by omega) (by omega) (by omega))⟩
  unfold cls
  split
  · exact (g 19 c (by omega) (by omega) (by omega)).trans (f 19 c (by omega) (by omega) (by omega))
  · split
    · exact (g 20 _ (by omega) (by omega) (by omega)).trans (f 20 _ (by omega) (by omega) (by omega))
    · omega
theorem mu_D0 {M c : Nat} (h : D0 M c) : mu c < 5 ∨ mu c = 10 ∨ mu c = 13 := by
  unfold mu
  split
  · omega
  · split
    · omega
    · split
      · omega
      · split
        · omega
        · omega
theorem MO0 {M n : Nat} {σ1 σ2 σ' : St} {V : Nat → Int32} (r : RMm n σ1 σ2) (f : ∀ k j, ¬ k = 56 → ¬ (k = 39 ∧ j = 32) → ¬ k = 54 → ¬ k = 55 → σ2 k j = σ1 k j) (g : ∀ k j, ¬ (k = 46 ∧ ((5 ≤ j ∧ j < 10) ∨ j = 11 ∨ j = 12)) → ¬ k = 54 → ¬ k = 55 → σ' k j = σ2 k j) (hV : ∀ c, D0 M c → σ1 46 (mu c) = V c) (h4 : σ1 39 12 = V 4) : MO D0 M n σ1 V σ' := by
  refine ⟨⟨(g 39 32 (by omega) (by omega) (by omega)).trans r.1, fun j hj => (g 56 j (by omega) (by omega) (by omega)).trans (r.2 j hj)⟩, fun k j h1 h2 h3 h4 h5 => (g k j (by omega) h3 h4).trans (f k j h2 (by omega) h3 h4), fun c hc => ?_, ((g 39 12 (by omega) (by omega) (by omega)).trans (f 39 12 (by omega) (by omega) (by omega) (by omega))).trans h4⟩
  have m := mu_D0 hc
  exact ((g 46 _ (by omega) (by omega) (by omega)).trans (f 46 _ (by omega) (by omega) (by omega) (by omega))).trans (hV c hc)
theorem C2_39 {σ σ1 : St} {M L n : Nat} (h : C2 σ M L n) (e : ∀ k j, 39 ≤ k → σ1 k j = σ k j) : C2 σ1 M L n := C2_ex h (fun j => e 39 j (by omega))
/-! assess -/
theorem ag_assess0 {σ : St} {a : Int32} (hJ : J2 D0 σ) (j1 : CI 63 [.ref 0, .int a] σ (fun _ σ' => J σ')) (j2 : ∀ σ1, J σ1 → CI 157 [.ref 39, .int a] σ1 (fun _ σ' => J σ')) {K : Int32 → Int32 → St → Prop} (hK : ∀ v1 v2 σ', J2 D0 σ' → K v1 v2 σ') : CI 63 [.ref 0, .int a] σ (fun v1 σ1 => CI 157 [.ref 39, .int a] σ1 (fun v2 σ2 => K v1 v2 σ2)) := by
  refine ag_op HD0 hJ j1 j2 (fun P x n hx hm hb hc hN hs => ⟨inR (P.1 2) a, cls σ, ?_, fun σ1 J1 e39 => ?_⟩) hK
  · refine w_63 (s_86 hb.2.2.2.2.1 hb.1 (ite10 (fun c => ?_) (fun c => Or.inl ⟨c, fun _ _ _ => rfl⟩)))
    refine s_9I hJ.1.1 hb fun σ1 I1 r1 f1 => ⟨by unfold inR at c; have := hb.1; omega, ?_⟩
    refine CI.pur (c := con_40) sat_40 rfl rfl (by decide) rfl rfl (by exact ⟨rfl, aI (by decide) (by decide), trivial⟩) I1 fun v3 => Or.inr ⟨c, CO0 hb.1 r1 (fun k j h1 h2 _ => f1 k j h1 h2) (fun k j h1 h2 _ => ?_)⟩
    rw [s2_ne _ _ (by omega), s2_ne _ _ (by omega)]
  · have hc1 := C2_39 hc e39
    refine w_157 (s_115 hc1.2.2.2.1 hb.1 (ite10 (fun c => ?_) (fun c => Or.inl ⟨c, fun _ _ _ _ => rfl⟩)))
    refine s_153I J1.1 hc1 fun σ2 I2 r2 f2 => ?_
    obtain ⟨k, hk, rfl, ea⟩ := inR_n c
    have hM := hb.1
    have l5 : (5 : Int32).toInt = 5 := rfl
    have e5 : (5 + Int32.ofNat k).toInt = 5 + (k : Int) := by rw [ti_add (by rw [ti_of (by omega), l5]; omega) (by rw [ti_of (by omega), l5]; omega), ti_of (by omega), l5]
    have c5 : (5 + Int32.ofNat k).toNatClampNeg = 5 + k := by rw [tc_ti, e5]; omega
    refine ⟨by rw [e5]; omega, w_136 ⟨by rw [ti_of (by omega)]; omega, ?_⟩⟩
    refine CI.pur (c := con_93) sat_93 rfl rfl (by decide) rfl rfl (by exact ⟨rfl, aI (by decide) (by decide), aI (by decide) (by decide), trivial⟩) I2 fun v3 => ?_
    rw [c5]
    have fin : ∀ w, MO D0 (P.1 2) n σ1 (cls σ) (s2 (s2 σ2 46 (5 + k) 0) 46 11 w) := fun w => MO0 r2 (fun k j h1 h2 _ _ => f2 k j h1 h2) (fun k' j h1 h2 h3 => by rw [s2_ne _ _ (by omega), s2_ne _ _ (by omega)]) (fun c hc => by rw [e39 46 _ (by omega)]; exact (hN c hc).symm) (by rw [e39 39 12 (by omega)]; exact hs.symm)
    split
    · exact Or.inr ⟨c, fin _⟩
    · exact Or.inr ⟨c, fin _⟩
/-! inspect -/
theorem s_87 {σ : St} {n : Nat} {a : Int32} {K : Int32 → St → Prop} (h : σ 11 3 = Int32.ofNat n) (hn : n ≤ 4) (hK : K (if inR n a then 1 else 0) σ) : CI 87 [.ref 0, .int a] σ K := by
  refine w_87 ?_
  have l0 : (0 : Int32).toInt = 0 := rfl
  have l8 : (4 : Int32).toInt = 4 := rfl
  rw [h]
  simp only [Int32.lt_iff_toInt_lt, Int32.le_iff_toInt_le, ti_of (show n < 2147483648 by omega), l0, l8]
  by_cases c : inR n a
  · rw [if_pos c] at hK
    unfold inR at c
    rw [if_neg (by omega), if_neg (by omega), if_neg (by omega)]; exact hK
  · rw [if_neg c] at hK
    unfold inR at c
    split
    · exact hK
    · split
      · exact hK
      · rw [if_pos (by omega)]; exact hK
theorem s_116 {σ : St} {n : Nat} {a : Int32} {K : Int32 → St → Prop} (h : σ 39 9 = Int32.ofNat n) (hn : n ≤ 4) (hK : K (if inR n a then 1 else 0) σ) : CI 116 [.ref 39, .int a] σ K := by
  refine w_116 ?_
  rw [h]
  exact s_in (by omega) hK
/-- what is owed more, by class and reference, touches only what is owed -/
theorem o_50 {σ : St} {b w : Int32} {K : St → Prop} (hK : ∀ σ', (∀ k j, ¬ k = 21 → σ' k j = σ k j) → K σ') : CV 50 [.ref 19, .int b, .int w] σ K := by
  refine w_50 ?_
  have l0 : (0 : Int32).toInt = 0 := rfl
  have l5 : (5 : Int32).toInt = 5 := rfl
  by_cases c1 : b < 0
  · rw [if_pos c1]; exact hK _ (fun _ _ _ => rfl)
  · rw [if_neg c1]
    by_cases c2 : 5 ≤ b
    · rw [if_pos c2]; exact hK _ (fun _ _ _ => rfl)
    · rw [if_neg c2]
      rw [Int32.lt_iff_toInt_lt, l0] at c1
      rw [Int32.le_iff_toInt_le, l5] at c2
      exact ⟨by omega, hK _ (fun k j h => s2_ne _ _ (fun z => h z.1))⟩
theorem o_158 {σ : St} {M : Nat} {b w : Int32} {K : St → Prop} (hM : M ≤ 5) (hb : inR M b) (hK : ∀ σ', (∀ k j, ¬ (k = 46 ∧ 5 ≤ j ∧ j < 10) → σ' k j = σ k j) → K σ') : CV 158 [.ref 39, .int b, .int w] σ K := by
  obtain ⟨k, hk, rfl, ea⟩ := inR_n hb
  have l5 : (5 : Int32).toInt = 5 := rfl
  have e5 : (5 + Int32.ofNat k).toInt = 5 + (k : Int) := by rw [ti_add (by rw [ti_of (by omega), l5]; omega) (by rw [ti_of (by omega), l5]; omega), ti_of (by omega), l5]
  have c5 : (5 + Int32.ofNat k).toNatClampNeg = 5 + k := by rw [tc_ti, e5]; omega
  refine w_158 ⟨by rw [e5]; omega, ?_⟩
  rw [c5]
  split
  · exact hK _ (fun k' j h => s2_ne _ _ (by omega))
  · exact hK _ (fun k' j h => s2_ne _ _ (by omega))
theorem aR {n : Nat} {a : Int32} {hi : Int} (h : inR n a) (hn : (n : Int) ≤ hi + 1) : argS (0, 0, hi) (.int a) := ⟨a, rfl, h.1, by unfold inR at h; dsimp only; omega⟩
theorem ag_inspect0 {σ : St} {a b : Int32} (hJ : J2 D0 σ) (j1 : CI 64 [.ref 0, .int a, .int b] σ (fun _ σ' => J σ')) (j2 : ∀ σ1, J σ1 → CI 160 [.ref 39, .int a, .int b] σ1 (fun _ σ' => J σ')) {K : Int32 → Int32 → St → Prop} (hK : ∀ v1 v2 σ', J2 D0 σ' → K v1 v2 σ') : CI 64 [.ref 0, .int a, .int b] σ (fun v1 σ1 => CI 160 [.ref 39, .int a, .int b] σ1 (fun v2 σ2 => K v1 v2 σ2)) := by
  refine ag_op HD0 hJ j1 j2 (fun P x n hx hm hb hc hN hs => ⟨inR (P.1 3) a ∧ inR (P.1 2) b, cls σ, ?_, fun σ1 J1 e39 => ?_⟩) hK
  · refine w_64 (s_87 hx.2.2.2.2.1 hx.1.2.2.2 (ite10 (fun c1 => s_86 hb.2.2.2.2.1 hb.1 (ite10 (fun c2 => ?_) (fun c2 => Or.inl ⟨fun z => c2 z.2, fun _ _ _ => rfl⟩))) (fun c1 => Or.inl ⟨fun z => c1 z.1, fun _ _ _ => rfl⟩)))
    refine s_9I hJ.1.1 hb fun σ1 I1 r1 f1 => ?_
    refine CI.pur (c := con_45) sat_45 rfl rfl (by decide) rfl rfl (by exact ⟨rfl, aI (by decide) (by decide), aI (by decide) (by decide), trivial⟩) I1 fun v4 => ?_
    exact o_50 fun σ5 f5 => Or.inr ⟨⟨c1, c2⟩, CO0 hb.1 r1 (fun k j h1 h2 _ => f1 k j h1 h2) (fun k j h1 _ _ => f5 k j h1)⟩
  · have hc1 := C2_39 hc e39
    refine w_160 (s_116 (by rw [e39 39 9 (by omega)]; exact hm.2.2.2.1) hx.1.2.2.2 (ite10 (fun c1 => s_115 hc1.2.2.2.1 hb.1 (ite10 (fun c2 => ?_) (fun c2 => Or.inl ⟨fun z => c2 z.2, fun _ _ _ _ => rfl⟩))) (fun c1 => Or.inl ⟨fun z => c1 z.1, fun _ _ _ _ => rfl⟩)))
    refine s_153I J1.1 hc1 fun σ2 I2 r2 f2 => ?_
    have h3 := hx.1.2.2.2
    have hM := hb.1
    refine CI.pur (c := con_104) sat_104 rfl rfl (by decide) rfl rfl (by exact ⟨rfl, aR c1 (by omega), aR c2 (by omega), trivial⟩) I2 fun v4 => ?_
    exact o_158 hb.1 c2 fun σ5 f5 => Or.inr ⟨⟨c1, c2⟩, MO0 r2 (fun k j h1 h2 _ _ => f2 k j h1 h2) (fun k' j h1 h2 h3 => f5 k' j (by omega)) (fun c hc => by rw [e39 46 _ (by omega)]; exact (hN c hc).symm) (by rw [e39 39 12 (by omega)]; exact hs.symm)⟩
