/-! draw, move, copy, undo, seed -/
theorem s_85 {σ : St} {n : Nat} {a : Int32} {K : Int32 → St → Prop} (h : σ 11 1 = Int32.ofNat n) (hn : n ≤ 12) (hK : K (if inR n a then 1 else 0) σ) : CI 85 [.ref 0, .int a] σ K := by
  refine w_85 ?_
  have l0 : (0 : Int32).toInt = 0 := rfl
  have l8 : (12 : Int32).toInt = 12 := rfl
  rw [h]
  simp only [Int32.lt_iff_toInt_lt, Int32.le_iff_toInt_le, ti_of (show n < 2147483648 by omega), l0, l8]
  by_cases c : inR n a
  · rw [if_pos c] at hK
    unfold inR at c
    rw [if_neg (by omega), if_neg (by omega), if_neg (by omega)]; exact hK
  · rw [if_neg c] at hK
    unfold inR at c
    split
    · exact hK
    · split
      · exact hK
      · rw [if_pos (by omega)]; exact hK
theorem s_114 {σ : St} {n : Nat} {a : Int32} {K : Int32 → St → Prop} (h : σ 39 1 = Int32.ofNat n) (hn : n ≤ 12) (hK : K (if inR n a then 1 else 0) σ) : CI 114 [.ref 39, .int a] σ K := by
  refine w_114 ?_
  rw [h]
  exact s_in (by omega) hK
theorem s_90 {σ : St} {n : Nat} {a b : Int32} {K : Int32 → St → Prop} (h : σ 11 2 = Int32.ofNat n) (hn : n ≤ 5) (hK : K (if twoR n a b then 1 else 0) σ) : CI 90 [.ref 0, .int a, .int b] σ K := by
  refine w_90 (s_86 h hn (ite10 (fun c1 => s_86 h hn (ite10 (fun c2 => ?_) (fun c2 => ?_))) (fun c1 => ?_)))
  · by_cases c3 : a = b
    · rw [if_pos c3]; rw [if_neg (fun z => z.2.2 c3)] at hK; exact hK
    · rw [if_neg c3]; rw [if_pos ⟨c1, c2, c3⟩] at hK; exact hK
  · rw [if_neg (fun z => c2 z.2.1)] at hK; exact hK
  · rw [if_neg (fun z => c1 z.1)] at hK; exact hK
def wb (x b c : Int32) : Int32 := if c = 0 then x &&& ((1 <<< (b &&& 31)) ^^^ (-1)) else x ||| (1 <<< (b &&& 31))
def b01 (x : Int32) (k : Nat) : Int32 := bif bt x k then 1 else 0
theorem s_92 {σ : St} {x : Int32} {k : Nat} {K : Int32 → St → Prop} (hk : k < 32) (hK : K (b01 x k) σ) : CI 92 [.int x, .int (Int32.ofNat k)] σ K := by
  refine w_92 ?_
  rw [bit_u hk]
  exact hK
theorem s_93 {σ : St} {x b c : Int32} {K : Int32 → St → Prop} (hK : K (wb x b c) σ) : CI 93 [.int x, .int b, .int c] σ K := by
  refine w_93 ?_
  unfold wb at hK
  by_cases d : c = 0
  · rw [if_pos d] at hK ⊢; exact hK
  · rw [if_neg d] at hK ⊢; exact hK
/-- what class and model have of plan and past -/
def B2 (σ : St) (M L x n : Nat) : Prop := M ≤ 5 ∧ L ≤ 12 ∧ x < 16 ∧ n ≤ 16 ∧ σ 11 2 = Int32.ofNat M ∧ σ 11 1 = Int32.ofNat L ∧ σ 22 0 = 16 ∧ σ 24 1 = Int32.ofNat x ∧ σ 24 2 = Int32.ofNat n
def C2 (σ : St) (M L n : Nat) : Prop := M ≤ 5 ∧ L ≤ 12 ∧ n ≤ 16 ∧ σ 39 6 = Int32.ofNat M ∧ σ 39 1 = Int32.ofNat L ∧ σ 39 32 = Int32.ofNat n
theorem i22 {σ : St} (hI : Inv σ) : σ 22 0 = 16 := by
  have h : 16 ≤ (σ 22 0).toInt ∧ (σ 22 0).toInt ≤ 16 := hI.1 22 0
  exact ti_inj (show (σ 22 0).toInt = 16 by omega)
theorem s_60 {σ : St} {a b c : Int32} {M L x n : Nat} (h : B2 σ M L x n) : CI 60 [.ref 0, .int a, .int b, .int c] σ (fun v σ' => (¬ (inR M a ∧ inR L b) ∧ v = -1000000001 ∧ σ' = σ) ∨ ((inR M a ∧ inR L b) ∧ RC x n σ σ' ∧ v = b01 (σ 20 a.toNatClampNeg) b.toNatClampNeg ∧ (∀ k j, ¬ k = 20 → ¬ k = 23 → ¬ k = 24 → σ' k j = σ k j) ∧ ∀ j, σ' 20 j = if j = a.toNatClampNeg then wb (σ 20 a.toNatClampNeg) b c else σ 20 j)) := by
  obtain ⟨hM, hL, hx, hn, e2, e1, h22, g1, g2⟩ := h
  refine w_60 (s_86 e2 hM (ite10 (fun c1 => s_85 e1 hL (ite10 (fun c2 => ?_) (fun c2 => Or.inl ⟨fun z => c2 z.2, rfl, rfl⟩))) (fun c1 => Or.inl ⟨fun z => c1 z.1, rfl, rfl⟩)))
  refine s_9 h22 hx hn g1 g2 fun σ1 r1 f1 => ?_
  obtain ⟨ka, hka, rfl, ea⟩ := inR_n c1
  obtain ⟨kb, hkb, rfl, eb⟩ := inR_n c2
  refine ⟨by rw [ti_of (by omega)]; omega, ?_⟩
  rw [ea, f1 20 ka (by omega) (by omega)]
  refine s_92 (by omega) (s_93 (Or.inr ⟨⟨c1, c2⟩, ⟨r1.1, r1.2.1, r1.2.2⟩, by rw [eb], fun k j h1 h2 h3 => ?_, fun j => ?_⟩))
  · rw [s2_ne _ _ (fun z => h1 z.1)]; exact f1 k j h2 (fun z => h3 z.1)
  · show (if j = ka then wb (σ1 20 ka) (Int32.ofNat kb) c else σ1 20 j) = _
    rw [f1 20 j (by omega) (by omega), f1 20 ka (by omega) (by omega)]
theorem s_154 {σ : St} {a b c : Int32} {M L n : Nat} (h : C2 σ M L n) : CI 154 [.ref 39, .int a, .int b, .int c] σ (fun v σ' => (¬ (inR M a ∧ inR L b) ∧ v = -1000000001 ∧ σ' = σ) ∨ ((inR M a ∧ inR L b) ∧ RMm n σ σ' ∧ v = b01 (σ 46 a.toNatClampNeg) b.toNatClampNeg ∧ (∀ k j, ¬ k = 46 → ¬ k = 56 → ¬ (k = 39 ∧ j = 32) → σ' k j = σ k j) ∧ ∀ j, σ' 46 j = if j = a.toNatClampNeg then wb (σ 46 a.toNatClampNeg) b c else σ 46 j)) := by
  obtain ⟨hM, hL, hn, e2, e1, g2⟩ := h
  refine w_154 (s_115 e2 hM (ite10 (fun c1 => s_114 e1 hL (ite10 (fun c2 => ?_) (fun c2 => Or.inl ⟨fun z => c2 z.2, rfl, rfl⟩))) (fun c1 => Or.inl ⟨fun z => c1 z.1, rfl, rfl⟩)))
  refine s_153 hn g2 fun σ1 r1 f1 => ?_
  obtain ⟨ka, hka, rfl, ea⟩ := inR_n c1
  obtain ⟨kb, hkb, rfl, eb⟩ := inR_n c2
  refine ⟨by rw [ti_of (by omega)]; omega, ?_⟩
  rw [ea, f1 46 ka (by omega) (by omega), bit_s (by omega)]
  have fin : ∀ w, w = wb (σ 46 ka) (Int32.ofNat kb) c → (¬ (inR M (Int32.ofNat ka) ∧ inR L (Int32.ofNat kb)) ∧ (bif bt (σ 46 ka) kb then (1 : Int32) else 0) = -1000000001 ∧ s2 σ1 46 ka w = σ) ∨ ((inR M (Int32.ofNat ka) ∧ inR L (Int32.ofNat kb)) ∧ RMm n σ (s2 σ1 46 ka w) ∧ (bif bt (σ 46 ka) kb then (1 : Int32) else 0) = b01 (σ 46 ka) (Int32.ofNat kb).toNatClampNeg ∧ (∀ k j, ¬ k = 46 → ¬ k = 56 → ¬ (k = 39 ∧ j = 32) → (s2 σ1 46 ka w) k j = σ k j) ∧ ∀ j, (s2 σ1 46 ka w) 46 j = if j = ka then wb (σ 46 ka) (Int32.ofNat kb) c else σ 46 j) := fun w hw => by
    refine Or.inr ⟨⟨c1, c2⟩, ⟨r1.1, r1.2⟩, by rw [eb]; rfl, fun k j h1 h2 h3 => ?_, fun j => ?_⟩
    · rw [s2_ne _ _ (fun z => h1 z.1)]; exact f1 k j h2 h3
    · show (if j = ka then w else σ1 46 j) = _
      rw [f1 46 j (by omega) (by omega), hw]
  by_cases d : c = 0
  · rw [if_pos d]; exact fin _ (by unfold wb; rw [if_pos d])
  · rw [if_neg d]; exact fin _ (by unfold wb; rw [if_neg d])
/-- plan and past, out of J2 -/
theorem J2.b {D : Nat → Nat → Prop} {σ : St} (h : J2 D σ) : ∃ P x n, XP σ P ∧ MPl σ P ∧ UNx (D (P.1 2)) σ x n ∧ (∀ c, D (P.1 2) c → cls σ c = σ 46 (mu c)) ∧ IMx (D (P.1 2)) σ ∧ σ 19 4 = σ 39 12 ∧ B2 σ (P.1 2) (P.1 1) x n ∧ C2 σ (P.1 2) (P.1 1) n := by
  obtain ⟨hJ, P, hx, hm, h1, ⟨x, n, h2⟩, h3, h4⟩ := h
  exact ⟨P, x, n, hx, hm, h2, h1, h3, h4, ⟨hx.1.2.2.1, hx.1.2.1, h2.2.1, h2.2.2.2.1, hx.2.2.2.1, hx.2.2.1, i22 hJ.1, h2.1, h2.2.2.1⟩, ⟨hx.1.2.2.1, hx.1.2.1, h2.2.2.2.1, hm.2.2.1, hm.2.1, h2.2.2.2.2.1⟩⟩
/-- the new state, after both remembered -/
theorem J2_rem {D : Nat → Nat → Prop} (hD : HD D) {σ σ2 : St} {P : PS} {x n : Nat} (hx : XP σ P) (hm : MPl σ P) (hu : UNx (D (P.1 2)) σ x n) (hN : ∀ c, D (P.1 2) c → cls σ c = σ 46 (mu c)) (hi : IMx (D (P.1 2)) σ) (hJ : J σ2) (rc : RC x n σ σ2) (rm : RMm n σ σ2) (fr : ∀ k j, (11 ≤ k ∧ k ≤ 18) ∨ (k = 39 ∧ (j = 0 ∨ j = 1 ∨ j = 6 ∨ j = 9)) ∨ (40 ≤ k ∧ k ≤ 45) ∨ k = 26 ∨ k = 61 ∨ k = 62 → σ2 k j = σ k j) (hN2 : ∀ c, D (P.1 2) c → cls σ2 c = σ2 46 (mu c)) (hs : σ2 19 4 = σ2 39 12) : J2 D σ2 :=
  ⟨hJ, P, XP_ex (fun k j hk => fr k j (by omega)) hx, MPl_ex (fun k j hk => fr k j (by omega)) hm, hN2, ⟨_, _, un_rem (fun c hc => ⟨(hD.1 _ _ hc).1, (hD.1 _ _ hc).2.1⟩) hu hN rc rm⟩, IMx_ex (fun j => fr 26 j (by omega)) (fun j => fr 61 j (by omega)) (fun j => fr 62 j (by omega)) hi, hs⟩
theorem RC_ex {x n : Nat} {σ σ1 σ2 : St} (h : RC x n σ σ1) (e23 : ∀ j, σ2 23 j = σ1 23 j) (e24 : ∀ j, σ2 24 j = σ1 24 j) : RC x n σ σ2 := ⟨by rw [e24]; exact h.1, by rw [e24]; exact h.2.1, fun j => by rw [e23]; exact h.2.2 j⟩
theorem RM_ex {n : Nat} {σ σ1 σ2 : St} (h : RMm n σ1 σ2) (e46 : ∀ j, σ1 46 j = σ 46 j) (e56 : ∀ j, σ1 56 j = σ 56 j) : RMm n σ σ2 := ⟨h.1, fun j hj => by rw [h.2 j hj, e46, e56, e56]⟩
theorem C2_ex {σ σ1 : St} {M L n : Nat} (h : C2 σ M L n) (e : ∀ j, σ1 39 j = σ 39 j) : C2 σ1 M L n := ⟨h.1, h.2.1, h.2.2.1, by rw [e]; exact h.2.2.2.1, by rw [e]; exact h.2.2.2.2.1, by rw [e]; exact h.2.2.2.2.2⟩
theorem mu5 {k : Nat} : mu (5 + k) = k := by
  unfold mu
  rw [if_neg (by omega), if_neg (by omega), if_neg (by omega), if_neg (by omega)]
  omega
theorem cls5 {σ : St} {k : Nat} (h : k < 5) : cls σ (5 + k) = σ 20 k := by
  unfold cls
  rw [if_neg (by omega), if_pos (by omega)]
  congr 1
  omega
/-- one cell is changed, alike on both sides -/
theorem N_up {D : Nat → Nat → Prop} (hD : HD D) {M : Nat} {σ σ2 : St} {c0 : Nat} (h0 : D0 M c0) (hM : M ≤ 5) (hN : ∀ c, D M c → cls σ c = σ 46 (mu c)) {w : Int32} (h1 : cls σ2 c0 = w) (h2 : σ2 46 (mu c0) = w) (r1 : ∀ c, c < 15 → ¬ c = c0 → cls σ2 c = cls σ c) (r2 : ∀ j, j < 14 → ¬ j = mu c0 → σ2 46 j = σ 46 j) : ∀ c, D M c → cls σ2 c = σ2 46 (mu c) := by
  intro c hc
  obtain ⟨c15, c4, -⟩ := hD.1 _ _ hc
  by_cases e : c = c0
  · rw [e, h1, h2]
  · have ne : ¬ mu c = mu c0 := fun z => e (mu_inj c15 (by omega) c4 (by omega) z)
    rw [r1 c c15 e, r2 _ (mu_lt c15 c4) ne]
    exact hN c hc
theorem ag_draw {D : Nat → Nat → Prop} (hD : HD D) {σ : St} {a b c : Int32} (hJ : J2 D σ) (j1 : CI 60 [.ref 0, .int a, .int b, .int c] σ (fun _ σ' => J σ')) (j2 : ∀ σ1, J σ1 → CI 154 [.ref 39, .int a, .int b, .int c] σ1 (fun _ σ' => J σ')) {K : Int32 → Int32 → St → Prop} (hK : ∀ v σ', J2 D σ' → K v v σ') : CI 60 [.ref 0, .int a, .int b, .int c] σ (fun v1 σ1 => CI 154 [.ref 39, .int a, .int b, .int c] σ1 (fun v2 σ2 => K v1 v2 σ2)) := by
  obtain ⟨P, x, n, hx, hm, hu, hN, hi, hs, hb, hc⟩ := hJ.b
  refine (j1.and (s_60 hb)).imp fun v1 σ1 ⟨J1, z1⟩ => ?_
  rcases z1 with ⟨no, rfl, rfl⟩ | ⟨ok, rc, rfl, f1, r1⟩
  · refine ((j2 _ J1).and (s_154 hc)).imp fun v2 σ2 ⟨J2', z2⟩ => ?_
    rcases z2 with ⟨-, rfl, rfl⟩ | ⟨ok, -⟩
    · exact hK _ _ hJ
    · exact absurd ok no
  · have hc1 : C2 σ1 (P.1 2) (P.1 1) n := C2_ex hc (fun j => f1 39 j (by omega) (by omega) (by omega))
    refine ((j2 _ J1).and (s_154 hc1)).imp fun v2 σ2 ⟨J2', z2⟩ => ?_
    rcases z2 with ⟨no, -⟩ | ⟨-, rm, rfl, f2, r2⟩
    · exact absurd ok no
    · obtain ⟨ka, hka, ea, ec⟩ := inR_n ok.1
      have hM : P.1 2 ≤ 5 := hb.1
      have dc : D0 (P.1 2) (5 + ka) := Or.inr (Or.inr ⟨by omega, by omega, by omega⟩)
      have ev : σ 20 ka = σ 46 ka := by
        have := hN (5 + ka) (hD.2 _ _ dc)
        rw [cls5 (by omega), mu5] at this
        exact this
      have e46 : ∀ j, σ1 46 j = σ 46 j := fun j => f1 46 j (by omega) (by omega) (by omega)
      rw [ec] at r1 r2 ⊢
      rw [e46, ← ev]
      refine hK _ _ (J2_rem hD hx hm hu hN hi J2' (RC_ex rc (fun j => f2 23 j (by omega) (by omega) (by omega)) (fun j => f2 24 j (by omega) (by omega) (by omega))) (RM_ex rm e46 (fun j => f1 56 j (by omega) (by omega) (by omega))) (fun k j hk => (f2 k j (by omega) (by omega) (by omega)).trans (f1 k j (by omega) (by omega) (by omega))) (N_up hD (c0 := 5 + ka) dc hM hN (w := wb (σ 20 ka) b c) ?_ ?_ (fun c' h1 h2 => ?_) (fun j h1 h2 => ?_)) ?_)
      · rw [cls5 (by omega), f2 20 ka (by omega) (by omega) (by omega), r1, if_pos rfl]
      · rw [mu5, r2, if_pos rfl, e46, ev]
      · unfold cls
        split
        · rw [f2 19 _ (by omega) (by omega) (by omega), f1 19 _ (by omega) (by omega) (by omega)]
        · split
          · rw [f2 20 _ (by omega) (by omega) (by omega), r1, if_neg (by omega)]
          · rw [f2 21 _ (by omega) (by omega) (by omega), f1 21 _ (by omega) (by omega) (by omega)]
      · rw [mu5] at h2
        rw [r2, if_neg h2, e46]
      · rw [f2 19 4 (by omega) (by omega) (by omega), f1 19 4 (by omega) (by omega) (by omega), f2 39 12 (by omega) (by omega) (by omega), f1 39 12 (by omega) (by omega) (by omega)]
        exact hs
/-- move -/
theorem s_61 {σ : St} {a b : Int32} {M L x n : Nat} (h : B2 σ M L x n) : CI 61 [.ref 0, .int a, .int b] σ (fun v σ' => (¬ inR L a ∧ v = -1000000001 ∧ σ' = σ) ∨ (inR L a ∧ RC x n σ σ' ∧ v = b01 (σ 19 0) a.toNatClampNeg ∧ (∀ k j, ¬ (k = 19 ∧ j = 0) → ¬ k = 23 → ¬ k = 24 → σ' k j = σ k j) ∧ σ' 19 0 = wb (σ 19 0) a b)) := by
  obtain ⟨hM, hL, hx, hn, e2, e1, h22, g1, g2⟩ := h
  refine w_61 (s_85 e1 hL (ite10 (fun c1 => ?_) (fun c1 => Or.inl ⟨c1, rfl, rfl⟩)))
  refine s_9 h22 hx hn g1 g2 fun σ1 r1 f1 => ?_
  obtain ⟨ka, hka, rfl, ea⟩ := inR_n c1
  rw [f1 19 0 (by omega) (by omega)]
  refine s_92 (by omega) ?_
  rw [f1 19 0 (by omega) (by omega)]
  refine s_93 (Or.inr ⟨c1, ⟨r1.1, r1.2.1, r1.2.2⟩, by rw [ea], fun k j h1 h2 h3 => ?_, rfl⟩)
  rw [s2_ne _ _ h1]; exact f1 k j h2 (fun z => h3 z.1)
theorem s_155 {σ : St} {a b : Int32} {M L n : Nat} (h : C2 σ M L n) : CI 155 [.ref 39, .int a, .int b] σ (fun v σ' => (¬ inR L a ∧ v = -1000000001 ∧ σ' = σ) ∨ (inR L a ∧ RMm n σ σ' ∧ v = b01 (σ 46 10) a.toNatClampNeg ∧ (∀ k j, ¬ k = 46 → ¬ k = 56 → ¬ (k = 39 ∧ j = 32) → σ' k j = σ k j) ∧ ∀ j, σ' 46 j = if j = 10 then wb (σ 46 10) a b else σ 46 j)) := by
  obtain ⟨hM, hL, hn, e2, e1, g2⟩ := h
  refine w_155 (s_114 e1 hL (ite10 (fun c1 => ?_) (fun c1 => Or.inl ⟨c1, rfl, rfl⟩)))
  refine s_153 hn g2 fun σ1 r1 f1 => ?_
  obtain ⟨ka, hka, rfl, ea⟩ := inR_n c1
  rw [f1 46 10 (by omega) (by omega), bit_s (by omega)]
  have fin : ∀ w, w = wb (σ 46 10) (Int32.ofNat ka) b → (¬ inR L (Int32.ofNat ka) ∧ (bif bt (σ 46 10) ka then (1 : Int32) else 0) = -1000000001 ∧ s2 σ1 46 10 w = σ) ∨ (inR L (Int32.ofNat ka) ∧ RMm n σ (s2 σ1 46 10 w) ∧ (bif bt (σ 46 10) ka then (1 : Int32) else 0) = b01 (σ 46 10) (Int32.ofNat ka).toNatClampNeg ∧ (∀ k j, ¬ k = 46 → ¬ k = 56 → ¬ (k = 39 ∧ j = 32) → (s2 σ1 46 10 w) k j = σ k j) ∧ ∀ j, (s2 σ1 46 10 w) 46 j = if j = 10 then wb (σ 46 10) (Int32.ofNat ka) b else σ 46 j) := fun w hw => by
    refine Or.inr ⟨c1, ⟨r1.1, r1.2⟩, by rw [ea]; rfl, fun k j h1 h2 h3 => ?_, fun j => ?_⟩
    · rw [s2_ne _ _ (fun z => h1 z.1)]; exact f1 k j h2 h3
    · show (if j = 10 then w else σ1 46 j) = _
      rw [f1 46 j (by omega) (by omega), hw]
  by_cases d : b = 0
  · rw [if_pos d]; exact fin _ (by unfold wb; rw [if_pos d])
  · rw [if_neg d]; exact fin _ (by unfold wb; rw [if_neg d])
theorem ag_move {D : Nat → Nat → Prop} (hD : HD D) {σ : St} {a b : Int32} (hJ : J2 D σ) (j1 : CI 61 [.ref 0, .int a, .int b] σ (fun _ σ' => J σ')) (j2 : ∀ σ1, J σ1 → CI 155 [.ref 39, .int a, .int b] σ1 (fun _ σ' => J σ')) {K : Int32 → Int32 → St → Prop} (hK : ∀ v σ', J2 D σ' → K v v σ') : CI 61 [.ref 0, .int a, .int b] σ (fun v1 σ1 => CI 155 [.ref 39, .int a, .int b] σ1 (fun v2 σ2 => K v1 v2 σ2)) := by
  obtain ⟨P, x, n, hx, hm, hu, hN, hi, hs, hb, hc⟩ := hJ.b
  refine (j1.and (s_61 hb)).imp fun v1 σ1 ⟨J1, z1⟩ => ?_
  rcases z1 with ⟨no, rfl, rfl⟩ | ⟨ok, rc, rfl, f1, r1⟩
  · refine ((j2 _ J1).and (s_155 hc)).imp fun v2 σ2 ⟨J2', z2⟩ => ?_
    rcases z2 with ⟨-, rfl, rfl⟩ | ⟨ok, -⟩
    · exact hK _ _ hJ
    · exact absurd ok no
  · have hc1 : C2 σ1 (P.1 2) (P.1 1) n := C2_ex hc (fun j => f1 39 j (by omega) (by omega) (by omega))
    refine ((j2 _ J1).and (s_155 hc1)).imp fun v2 σ2 ⟨J2', z2⟩ => ?_
    rcases z2 with ⟨no, -⟩ | ⟨-, rm, rfl, f2, r2⟩
    · exact absurd ok no
    · have hM : P.1 2 ≤ 5 := hb.1
      have dc : D0 (P.1 2) 0 := Or.inl rfl
      have ev : σ 19 0 = σ 46 10 := hN 0 (hD.2 _ _ dc)
      have e46 : ∀ j, σ1 46 j = σ 46 j := fun j => f1 46 j (by omega) (by omega) (by omega)
      rw [e46, ← ev]
      refine hK _ _ (J2_rem hD hx hm hu hN hi J2' (RC_ex rc (fun j => f2 23 j (by omega) (by omega) (by omega)) (fun j => f2 24 j (by omega) (by omega) (by omega))) (RM_ex rm e46 (fun j => f1 56 j (by omega) (by omega) (by omega))) (fun k j hk => (f2 k j (by omega) (by omega) (by omega)).trans (f1 k j (by omega) (by omega) (by omega))) (N_up hD (c0 := 0) dc hM hN (w := wb (σ 19 0) a b) ?_ ?_ (fun c' h1 h2 => ?_) (fun j h1 h2 => ?_)) ?_)
      · show σ2 19 0 = _
        rw [f2 19 0 (by omega) (by omega) (by omega)]; exact r1
      · show σ2 46 10 = _
        rw [r2, if_pos rfl, e46, ev]
      · unfold cls
        split
        · rw [f2 19 _ (by omega) (by omega) (by omega), f1 19 _ (by omega) (by omega) (by omega)]
        · split
          · rw [f2 20 _ (by omega) (by omega) (by omega), f1 20 _ (by omega) (by omega) (by omega)]
          · rw [f2 21 _ (by omega) (by omega) (by omega), f1 21 _ (by omega) (by omega) (by omega)]
      · have h3 : ¬ j = 10 := h2
        rw [r2, if_neg h3, e46]
      · rw [f2 19 4 (by omega) (by omega) (by omega), f1 19 4 (by omega) (by omega) (by omega), f2 39 12 (by omega) (by omega) (by omega), f1 39 12 (by omega) (by omega) (by omega)]
        exact hs
/-- copy -/
theorem s_62 {σ : St} {a b : Int32} {M L x n : Nat} (h : B2 σ M L x n) : CI 62 [.ref 0, .int a, .int b] σ (fun v σ' => (¬ twoR M a b ∧ v = -1000000001 ∧ σ' = σ) ∨ (twoR M a b ∧ RC x n σ σ' ∧ v = σ 20 a.toNatClampNeg ∧ (∀ k j, ¬ k = 20 → ¬ k = 23 → ¬ k = 24 → σ' k j = σ k j) ∧ ∀ j, σ' 20 j = if j = a.toNatClampNeg then σ 20 b.toNatClampNeg else σ 20 j)) := by
  obtain ⟨hM, hL, hx, hn, e2, e1, h22, g1, g2⟩ := h
  refine w_62 (s_90 e2 hM (ite10 (fun c1 => ?_) (fun c1 => Or.inl ⟨c1, rfl, rfl⟩)))
  refine s_9 h22 hx hn g1 g2 fun σ1 r1 f1 => ?_
  have ra := c1.1
  have rb := c1.2.1
  unfold inR at ra rb
  refine ⟨⟨ra.1, by omega⟩, ⟨rb.1, by omega⟩, Or.inr ⟨c1, ⟨r1.1, r1.2.1, r1.2.2⟩, f1 20 _ (by omega) (by omega), fun k j h1 h2 h3 => ?_, fun j => ?_⟩⟩
  · rw [s2_ne _ _ (fun z => h1 z.1)]; exact f1 k j h2 (fun z => h3 z.1)
  · show (if j = a.toNatClampNeg then σ1 20 b.toNatClampNeg else σ1 20 j) = _
    rw [f1 20 j (by omega) (by omega), f1 20 _ (by omega) (by omega)]
theorem s_156 {σ : St} {a b : Int32} {M L n : Nat} (h : C2 σ M L n) : CI 156 [.ref 39, .int a, .int b] σ (fun v σ' => (¬ twoR M a b ∧ v = -1000000001 ∧ σ' = σ) ∨ (twoR M a b ∧ RMm n σ σ' ∧ v = σ 46 a.toNatClampNeg ∧ (∀ k j, ¬ k = 46 → ¬ k = 56 → ¬ (k = 39 ∧ j = 32) → σ' k j = σ k j) ∧ ∀ j, σ' 46 j = if j = a.toNatClampNeg then σ 46 b.toNatClampNeg else σ 46 j)) := by
  obtain ⟨hM, hL, hn, e2, e1, g2⟩ := h
  refine w_156 (s_115 e2 hM (ite10 (fun c1 => s_115 e2 hM (ite10 (fun c2 => ?_) (fun c2 => Or.inl ⟨fun z => c2 z.2.1, rfl, rfl⟩))) (fun c1 => Or.inl ⟨fun z => c1 z.1, rfl, rfl⟩)))
  by_cases c3 : a = b
  · rw [if_pos c3]; exact Or.inl ⟨fun z => z.2.2 c3, rfl, rfl⟩
  · rw [if_neg c3]
    refine s_153 hn g2 fun σ1 r1 f1 => ?_
    have ra := c1
    have rb := c2
    unfold inR at ra rb
    refine ⟨⟨ra.1, by omega⟩, ⟨rb.1, by omega⟩, Or.inr ⟨⟨c1, c2, c3⟩, ⟨r1.1, r1.2⟩, f1 46 _ (by omega) (by omega), fun k j h1 h2 h3 => ?_, fun j => ?_⟩⟩
    · rw [s2_ne _ _ (fun z => h1 z.1)]; exact f1 k j h2 h3
    · show (if j = a.toNatClampNeg then σ1 46 b.toNatClampNeg else σ1 46 j) = _
      rw [f1 46 j (by omega) (by omega), f1 46 _ (by omega) (by omega)]
theorem ag_copy {D : Nat → Nat → Prop} (hD : HD D) {σ : St} {a b : Int32} (hJ : J2 D σ) (j1 : CI 62 [.ref 0, .int a, .int b] σ (fun _ σ' => J σ')) (j2 : ∀ σ1, J σ1 → CI 156 [.ref 39, .int a, .int b] σ1 (fun _ σ' => J σ')) {K : Int32 → Int32 → St → Prop} (hK : ∀ v σ', J2 D σ' → K v v σ') : CI 62 [.ref 0, .int a, .int b] σ (fun v1 σ1 => CI 156 [.ref 39, .int a, .int b] σ1 (fun v2 σ2 => K v1 v2 σ2)) := by
  obtain ⟨P, x, n, hx, hm, hu, hN, hi, hs, hb, hc⟩ := hJ.b
  refine (j1.and (s_62 hb)).imp fun v1 σ1 ⟨J1, z1⟩ => ?_
  rcases z1 with ⟨no, rfl, rfl⟩ | ⟨ok, rc, rfl, f1, r1⟩
  · refine ((j2 _ J1).and (s_156 hc)).imp fun v2 σ2 ⟨J2', z2⟩ => ?_
    rcases z2 with ⟨-, rfl, rfl⟩ | ⟨ok, -⟩
    · exact hK _ _ hJ
    · exact absurd ok no
  · have hc1 : C2 σ1 (P.1 2) (P.1 1) n := C2_ex hc (fun j => f1 39 j (by omega) (by omega) (by omega))
    refine ((j2 _ J1).and (s_156 hc1)).imp fun v2 σ2 ⟨J2', z2⟩ => ?_
    rcases z2 with ⟨no, -⟩ | ⟨-, rm, rfl, f2, r2⟩
    · exact absurd ok no
    · obtain ⟨ka, hka, ea, ec⟩ := inR_n ok.1
      obtain ⟨kb, hkb, eb, ed⟩ := inR_n ok.2.1
      have hM : P.1 2 ≤ 5 := hb.1
      have get : ∀ k, k < P.1 2 → σ 20 k = σ 46 k := fun k hk => by
        have := hN (5 + k) (hD.2 _ _ (Or.inr (Or.inr ⟨by omega, by omega, by omega⟩)))
        rw [cls5 (by omega), mu5] at this
        exact this
      have dc : D0 (P.1 2) (5 + ka) := Or.inr (Or.inr ⟨by omega, by omega, by omega⟩)
      have e46 : ∀ j, σ1 46 j = σ 46 j := fun j => f1 46 j (by omega) (by omega) (by omega)
      rw [ec, ed] at r1 r2
      rw [ec, e46, ← get ka hka]
      refine hK _ _ (J2_rem hD hx hm hu hN hi J2' (RC_ex rc (fun j => f2 23 j (by omega) (by omega) (by omega)) (fun j => f2 24 j (by omega) (by omega) (by omega))) (RM_ex rm e46 (fun j => f1 56 j (by omega) (by omega) (by omega))) (fun k j hk => (f2 k j (by omega) (by omega) (by omega)).trans (f1 k j (by omega) (by omega) (by omega))) (N_up hD (c0 := 5 + ka) dc hM hN (w := σ 20 kb) ?_ ?_ (fun c' h1 h2 => ?_) (fun j h1 h2 => ?_)) ?_)
      · rw [cls5 (by omega), f2 20 ka (by omega) (by omega) (by omega), r1, if_pos rfl]
      · rw [mu5, r2, if_pos rfl, e46, get kb hkb]
      · unfold cls
        split
        · rw [f2 19 _ (by omega) (by omega) (by omega), f1 19 _ (by omega) (by omega) (by omega)]
        · split
          · rw [f2 20 _ (by omega) (by omega) (by omega), r1, if_neg (by omega)]
          · rw [f2 21 _ (by omega) (by omega) (by omega), f1 21 _ (by omega) (by omega) (by omega)]
      · rw [mu5] at h2
        rw [r2, if_neg h2, e46]
      · rw [f2 19 4 (by omega) (by omega) (by omega), f1 19 4 (by omega) (by omega) (by omega), f2 39 12 (by omega) (by omega) (by omega), f1 39 12 (by omega) (by omega) (by omega)]
        exact hs
/-- undo -/
theorem ag_undo {D : Nat → Nat → Prop} (hD : HD D) {σ : St} (hJ : J2 D σ) (j1 : CI 68 [.ref 0] σ (fun _ σ' => J σ')) (j2 : ∀ σ1, J σ1 → CI 169 [.ref 39] σ1 (fun _ σ' => J σ')) {K : Int32 → Int32 → St → Prop} (hK : ∀ v σ', J2 D σ' → K v v σ') : CI 68 [.ref 0] σ (fun v1 σ1 => CI 169 [.ref 39] σ1 (fun v2 σ2 => K v1 v2 σ2)) := by
  obtain ⟨P, x, n, hx, hm, hu, hN, hi, hs, ⟨-, -, bx, bn, -, -, b22, b1, b2⟩, hc⟩ := hJ.b
  have S1 : CI 68 [.ref 0] σ (fun v σ' => (n = 0 ∧ v = -1000000003 ∧ σ' = σ) ∨ (¬ n = 0 ∧ (∀ k j, ¬ k = 19 → ¬ k = 20 → ¬ k = 21 → ¬ (k = 24 ∧ (j = 1 ∨ j = 2)) → σ' k j = σ k j) ∧ σ' 24 1 = Int32.ofNat ((x + 15) % 16) ∧ σ' 24 2 = Int32.ofNat (n - 1) ∧ (∀ c, c < 15 → ¬ c = 4 → cls σ' c = σ 23 (15 * ((x + 15) % 16) + c)) ∧ σ' 19 4 = σ 19 4 ∧ v = Int32.ofNat (n - 1))) := s_68 b22 bx bn b1 b2 (fun h => Or.inl ⟨h, rfl, rfl⟩) (fun h σ' a1 a2 a3 a4 a5 => Or.inr ⟨h, a1, a2, a3, a4, a5, rfl⟩)
  refine (j1.and S1).imp fun v1 σ1 ⟨J1, z1⟩ => ?_
  have e0 : σ1 39 32 = Int32.ofNat n := by
    rcases z1 with ⟨-, -, rfl⟩ | ⟨-, f1, -⟩
    · exact hc.2.2.2.2.2
    · rw [f1 39 32 (by omega) (by omega) (by omega) (by omega)]; exact hc.2.2.2.2.2
  have S2 : CI 169 [.ref 39] σ1 (fun v σ' => (n = 0 ∧ v = -1000000003 ∧ σ' = σ1) ∨ (¬ n = 0 ∧ (∀ k j, ¬ k = 46 → ¬ (k = 39 ∧ j = 32) → σ' k j = σ1 k j) ∧ σ' 39 32 = Int32.ofNat (n - 1) ∧ (∀ j, j < 14 → σ' 46 j = σ1 56 (14 * (n - 1) + j)) ∧ v = Int32.ofNat (n - 1))) := s_169 bn e0 (fun h => Or.inl ⟨h, rfl, rfl⟩) (fun h σ' a1 a2 a3 => Or.inr ⟨h, a1, a2, a3, rfl⟩)
  refine ((j2 _ J1).and S2).imp fun v2 σ2 ⟨J2', z2⟩ => ?_
  rcases z1 with ⟨h0, rfl, rfl⟩ | ⟨h0, f1, g1, g2, r1, s1, rfl⟩
  · rcases z2 with ⟨-, rfl, rfl⟩ | ⟨h1, -⟩
    · exact hK _ _ hJ
    · exact absurd h0 h1
  · rcases z2 with ⟨h1, -⟩ | ⟨-, f2, g3, r2, rfl⟩
    · exact absurd h1 h0
    · have fr : ∀ k j, ¬ k = 19 → ¬ k = 20 → ¬ k = 21 → ¬ k = 24 → ¬ k = 46 → ¬ (k = 39 ∧ j = 32) → σ2 k j = σ k j := fun k j a1 a2 a3 a4 a5 a6 => (f2 k j a5 a6).trans (f1 k j a1 a2 a3 (fun z => a4 z.1))
      refine hK _ _ ⟨J2', P, XP_ex (fun k j hk => fr k j (by omega) (by omega) (by omega) (by omega) (by omega) (by omega)) hx, MPl_ex (fun k j hk => fr k j (by omega) (by omega) (by omega) (by omega) (by omega) (by omega)) hm, fun c hc' => ?_, ⟨_, _, un_undo hu h0 ?_ ?_ g3 (fun j => fr 23 j (by omega) (by omega) (by omega) (by omega) (by omega) (by omega)) (fun j => fr 56 j (by omega) (by omega) (by omega) (by omega) (by omega) (by omega))⟩, IMx_ex (fun j => fr 26 j (by omega) (by omega) (by omega) (by omega) (by omega) (by omega)) (fun j => fr 61 j (by omega) (by omega) (by omega) (by omega) (by omega) (by omega)) (fun j => fr 62 j (by omega) (by omega) (by omega) (by omega) (by omega) (by omega)) hi, ?_⟩
      · obtain ⟨c15, c4, -⟩ := hD.1 _ _ hc'
        have e1 : cls σ2 c = cls σ1 c := cls_ex (fun k j h1 h2 => f2 k j (by omega) (by omega)) c
        rw [e1, r1 c c15 c4, r2 _ (mu_lt c15 c4), f1 56 _ (by omega) (by omega) (by omega) (by omega)]
        have := hu.2.2.2.2.2 0 (by omega) c hc'
        have ez : (x + 15 - 0) % 16 = (x + 15) % 16 := by omega
        have ey : n - 1 - 0 = n - 1 := by omega
        rw [ez, ey] at this
        exact this
      · rw [f2 24 1 (by omega) (by omega)]; exact g1
      · rw [f2 24 2 (by omega) (by omega)]; exact g2
      · rw [f2 19 4 (by omega) (by omega), s1, f2 39 12 (by omega) (by omega), f1 39 12 (by omega) (by omega) (by omega) (by omega)]; exact hs
/-- seed -/
theorem ag_seed {D : Nat → Nat → Prop} (hD : HD D) {σ : St} {a : Int32} (hJ : J2 D σ) (j1 : CI 81 [.ref 0, .int a] σ (fun _ σ' => J σ')) (j2 : ∀ σ1, J σ1 → CI 188 [.ref 39, .int a] σ1 (fun _ σ' => J σ')) {K : Int32 → Int32 → St → Prop} (hK : ∀ v σ', J2 D σ' → K v v σ') : CI 81 [.ref 0, .int a] σ (fun v1 σ1 => CI 188 [.ref 39, .int a] σ1 (fun v2 σ2 => K v1 v2 σ2)) := by
  have S1 : CI 81 [.ref 0, .int a] σ (fun v σ' => (0 ≤ a ∧ v = σ 19 4 ∧ σ' = s2 σ 19 4 a) ∨ (¬ 0 ≤ a ∧ v = -1000000002 ∧ σ' = σ)) := by
    refine w_81 ?_
    by_cases c : 0 ≤ a
    · rw [if_pos c]; exact Or.inl ⟨c, rfl, rfl⟩
    · rw [if_neg c]; exact Or.inr ⟨c, rfl, rfl⟩
  refine (j1.and S1).imp fun v1 σ1 ⟨J1, z1⟩ => ?_
  have S2 : CI 188 [.ref 39, .int a] σ1 (fun v σ' => (0 ≤ a ∧ v = σ1 39 12 ∧ σ' = s2 σ1 39 12 a) ∨ (¬ 0 ≤ a ∧ v = -1000000002 ∧ σ' = σ1)) := by
    refine w_188 ?_
    by_cases c : 0 ≤ a
    · rw [if_pos c]; exact Or.inl ⟨c, rfl, rfl⟩
    · rw [if_neg c]; exact Or.inr ⟨c, rfl, rfl⟩
  refine ((j2 _ J1).and S2).imp fun v2 σ2 ⟨J2', z2⟩ => ?_
  rcases z1 with ⟨c, rfl, rfl⟩ | ⟨c, rfl, rfl⟩ <;> rcases z2 with ⟨c', rfl, rfl⟩ | ⟨c', rfl, rfl⟩
  · obtain ⟨-, P, hx, hm, h1, ⟨x, n, h2⟩, h3, h4⟩ := hJ
    have ev : (s2 σ 19 4 a) 39 12 = σ 19 4 := h4.symm
    rw [ev]
    have fr : ∀ k j, ¬ (k = 19 ∧ j = 4) → ¬ (k = 39 ∧ j = 12) → (s2 (s2 σ 19 4 a) 39 12 a) k j = σ k j := fun k j a1 a2 => by rw [s2_ne _ _ a2, s2_ne _ _ a1]
    refine hK _ _ ⟨J2', P, XP_ex (fun k j hk => fr k j (by omega) (by omega)) hx, MPl_ex (fun k j hk => fr k j (by omega) (by omega)) hm, fun c hc => ?_, ⟨x, n, UNx_ex (fun j => fr 24 j (by omega) (by omega)) (fun j => fr 23 j (by omega) (by omega)) (fun j => fr 56 j (by omega) (by omega)) (fr 39 32 (by omega) (by omega)) h2⟩, IMx_ex (fun j => fr 26 j (by omega) (by omega)) (fun j => fr 61 j (by omega) (by omega)) (fun j => fr 62 j (by omega) (by omega)) h3, rfl⟩
    obtain ⟨-, c4, -⟩ := hD.1 _ _ hc
    rw [fr 46 _ (by omega) (by omega), ← h1 c hc]
    unfold cls
    split
    · exact fr 19 _ (by omega) (by omega)
    · split
      · exact fr 20 _ (by omega) (by omega)
      · exact fr 21 _ (by omega) (by omega)
  · exact absurd c c'
  · exact absurd c' c
  · exact hK _ _ hJ
