/-! survey -/
def XP (σ : St) (P : PS) : Prop := PB P ∧ σ 11 0 = Int32.ofNat (P.1 0) ∧ σ 11 1 = Int32.ofNat (P.1 1) ∧ σ 11 2 = Int32.ofNat (P.1 2) ∧ σ 11 3 = Int32.ofNat (P.1 3) ∧ (∀ j, j < P.1 1 → σ 12 j = P.2.2 0 j ∧ σ 13 j = P.2.2 1 j ∧ σ 14 j = P.2.2 2 j) ∧ (∀ j, j < P.1 2 → σ 16 j = P.2.2 3 j) ∧ (∀ j, j < P.1 3 → σ 18 j = P.2.2 5 j)
def XS (σ : St) (P : PS) : Prop := σ 19 0 = P.2.1 ∧ σ 19 1 = 0 ∧ σ 19 2 = 0 ∧ σ 19 3 = 0 ∧ (∀ j, j < P.1 2 → σ 20 j = P.2.2 4 j) ∧ (∀ j, j < 5 → σ 21 j = 0) ∧ σ 24 2 = 0 ∧ σ 29 0 = 0 ∧ σ 29 1 = 0 ∧ σ 0 11 = 0
def MPl (σ : St) (P : PS) : Prop := σ 39 0 = Int32.ofNat (P.1 0) ∧ σ 39 1 = Int32.ofNat (P.1 1) ∧ σ 39 6 = Int32.ofNat (P.1 2) ∧ σ 39 9 = Int32.ofNat (P.1 3) ∧ (∀ j, j < P.1 1 → σ 40 j = P.2.2 0 j ∧ σ 41 j = P.2.2 1 j ∧ σ 42 j = P.2.2 2 j) ∧ (∀ j, j < P.1 2 → σ 43 j = P.2.2 3 j) ∧ (∀ j, j < P.1 3 → σ 45 j = P.2.2 5 j)
def MS (σ : St) (P : PS) : Prop := σ 46 10 = P.2.1 ∧ σ 46 11 = 0 ∧ σ 46 12 = 0 ∧ σ 46 13 = 0 ∧ (∀ j, j < P.1 2 → σ 46 j = P.2.2 4 j) ∧ (∀ j, j < 5 → σ 46 (5 + j) = 0) ∧ σ 39 32 = 0 ∧ σ 39 34 = 0 ∧ σ 39 37 = 0 ∧ σ 62 0 = 0 ∧ σ 62 1 = 0
theorem cpy0 {f g : Nat → Int32} {n j : Nat} (h : j < n) : va_cpy f g 0 0 n j = f j := by
  unfold va_cpy
  rw [if_pos ⟨Nat.zero_le j, by omega⟩]
  congr 1
  omega
/-- the text of the class, of the reference -/
def TX (σ : St) (T : Nat → Int32) : Prop := ∃ n : Nat, n ≤ 240 ∧ (∀ i, i < n → 0 ≤ (σ 2 i).toInt) ∧ σ 1 1 = Int32.ofNat n ∧ T = fun i => if i < n then σ 2 i else -1
def TM (σ : St) (T : Nat → Int32) : Prop := ∃ n : Nat, n ≤ 240 ∧ (∀ i, i < n → 0 ≤ (σ 47 i).toInt) ∧ σ 39 14 = Int32.ofNat n ∧ T = fun i => if i < n then σ 47 i else -1
theorem P0_b : PB P0 := ⟨Nat.zero_le _, Nat.zero_le _, Nat.zero_le _, Nat.zero_le _⟩
theorem of_ti {x : Int32} (h : 0 ≤ x.toInt) : Int32.ofNat x.toInt.toNat = x := by
  have := ti_r x
  exact ti_inj (by rw [ti_of (by omega)]; omega)
/-- readInto -/
theorem s_23 {σ : St} {T : Nat → Int32} {K : Int32 → St → Prop} (hT : TX σ T) (h5 : 0 ≤ (σ 1 5).toInt) (hK : ∀ σ', FrD σ σ' → AO σ' T (-1) (pz T) → K (σ' 1 3) (s2 σ' 1 1 0)) : CI 23 [.ref 1, .ref 3] σ K := by
  obtain ⟨n, hn, hl, h1, hTe⟩ := hT
  refine w_23 (w_12 ?_)
  have R0 : RX (s2 (s2 (s2 (s2 (s2 (s2 (s2 (s2 σ 1 4 0) 1 3 0) 1 2 (-1)) 3 0 0) 3 1 0) 3 2 0) 3 3 0) 3 4 0) T (0, (σ 1 5).toInt.toNat, 0, -1) := by
    refine ⟨rfl, (of_ti h5).symm, rfl, rfl, Nat.zero_le _, Nat.zero_le _, n, hn, fun i hi e => ?_, h1, hTe⟩
    have h0 := hl i hi
    have e1 : σ 2 i = -1 := e
    rw [e1] at h0
    exact absurd h0 (by decide)
  have D0 : DR (s2 (s2 (s2 (s2 (s2 (s2 (s2 (s2 σ 1 4 0) 1 3 0) 1 2 (-1)) 3 0 0) 3 1 0) 3 2 0) 3 3 0) 3 4 0) P0 := ⟨P0_b, rfl, rfl, rfl, rfl, rfl, fun j hj => absurd hj (Nat.not_lt_zero j), fun j hj => absurd hj (Nat.not_lt_zero j), fun j hj => absurd hj (Nat.not_lt_zero j), fun i => i, ⟨fun i hi => absurd hi (Nat.not_lt_zero i), fun i j _ hj => absurd hj (Nat.not_lt_zero j), fun l hl => absurd hl (Nat.not_lt_zero l)⟩, fun i hi => absurd hi (Nat.not_lt_zero i)⟩
  have F0 : FrD σ (s2 (s2 (s2 (s2 (s2 (s2 (s2 (s2 σ 1 4 0) 1 3 0) 1 2 (-1)) 3 0 0) 3 1 0) 3 2 0) 3 3 0) 3 4 0) := fun k j a1 a2 => by
    have a3 : ∀ i, 2 ≤ i → i ≤ 5 → ¬ (k = 1 ∧ j = i) := fun i b1 b2 z => by have := a1 z.1; omega
    rw [s2_ne _ _ (by omega), s2_ne _ _ (by omega), s2_ne _ _ (by omega), s2_ne _ _ (by omega), s2_ne _ _ (by omega), s2_ne _ _ (a3 2 (by omega) (by omega)), s2_ne _ _ (a3 3 (by omega) (by omega)), s2_ne _ _ (a3 4 (by omega) (by omega))]
  generalize s2 (s2 (s2 (s2 (s2 (s2 (s2 (s2 σ 1 4 0) 1 3 0) 1 2 (-1)) 3 0 0) 3 1 0) 3 2 0) 3 3 0) 3 4 0 = τ at R0 D0 F0 ⊢
  refine s_33c R0 fun σ2 f2 R2 => ?_
  dsimp only at R2
  refine s_23l (c := 0) 241 (by omega) (Nat.zero_le _) (sk_sk R2.ht) R2 (D0.fr f2) fun σ3 f3 h3 => hK σ3 ((F0.tr f2.d).tr f3) ?_
  rw [su_sk R2.ht] at h3
  exact h3
/-- fill -/
theorem s_193 {σ : St} {K : St → Prop} (hK : ∀ σ', (∀ k j, ¬ k = 21 → σ' k j = σ k j) → (∀ j, j < 5 → σ' 21 j = 0) → K σ') : CV 193 [.ref 21, .int 0] σ K := by
  refine w_193_21 (w_193_21_5 ?_)
  rw [if_neg (by decide)]
  refine ⟨by decide, w_193_21_5 ?_⟩
  rw [if_neg (by decide)]
  refine ⟨by decide, w_193_21_5 ?_⟩
  rw [if_neg (by decide)]
  refine ⟨by decide, w_193_21_5 ?_⟩
  rw [if_neg (by decide)]
  refine ⟨by decide, w_193_21_5 ?_⟩
  rw [if_neg (by decide)]
  refine ⟨by decide, w_193_21_5 ?_⟩
  rw [if_pos (by decide)]
  refine hK _ (fun k j hk => ?_) (fun j hj => ?_)
  · rw [s2_ne _ _ (fun z => hk z.1), s2_ne _ _ (fun z => hk z.1), s2_ne _ _ (fun z => hk z.1), s2_ne _ _ (fun z => hk z.1), s2_ne _ _ (fun z => hk z.1)]
  · have c : j = 0 ∨ j = 1 ∨ j = 2 ∨ j = 3 ∨ j = 4 := by omega
    rcases c with rfl | rfl | rfl | rfl | rfl <;> rfl
/-- the class's survey -/
def FC (σ σ' : St) : Prop := ∀ k j : Nat, (k = 2 ∨ (k = 19 ∧ j = 4) ∨ (22 ≤ k ∧ k ≤ 23) ∨ (25 ≤ k ∧ k ≤ 28) ∨ 30 ≤ k) → σ' k j = σ k j
theorem s_55 {σ : St} {T : Nat → Int32} {K : Int32 → St → Prop} (hT : TX σ T) (h5 : 0 ≤ (σ 1 5).toInt)
    (ok : (pz T).1 = 0 → ∀ σ', FC σ σ' → XP σ' (pz T).2.2 → XS σ' (pz T).2.2 → σ' 0 10 = -1 → σ' 1 1 = 0 → K (Int32.ofNat ((pz T).2.2.1 1)) σ')
    (no : ¬ (pz T).1 = 0 → (pz T).1 ≤ 4 → ∀ σ', (∀ k j, ¬ (k = 0 ∧ j = 10) → ¬ k = 1 → (k < 3 ∨ 10 < k) → σ' k j = σ k j) → σ' 0 10 = Int32.ofNat (pz T).2.1 → σ' 1 1 = 0 → K ((-10) - Int32.ofNat (pz T).1) σ') : CI 55 [.ref 0] σ K := by
  refine w_55 (s_23 hT h5 fun σ1 f1 h1 => ?_)
  rcases h1 with ⟨e0, na, R1, D1⟩ | h1
  · rw [R1.z, if_pos rfl]
    have fa : σ1 1 2 = -1 := R1.2.2.2.1
    refine w_13 (w_49 (s_193 fun σ2 g2 z2 => w_0 (w_11 ?_)))
    obtain ⟨b0, d1, d2, d3, d4, d5, d6, d7, d8, -⟩ := D1
    have ex : (s2 (s2 (s2 σ2 29 0 0) 29 1 0) 24 2 0) 11 1 = Int32.ofNat ((pz T).2.2.1 1) := (g2 11 1 (by omega)).trans d2
    rw [ex]
    refine ok e0 _ (fun k j hk => ?_) ⟨b0, (g2 11 0 (by omega)).trans d1, (g2 11 1 (by omega)).trans d2, (g2 11 2 (by omega)).trans d3, (g2 11 3 (by omega)).trans d4, fun j hj => ⟨?_, ?_, ?_⟩, fun j hj => ?_, fun j hj => ?_⟩ ⟨(g2 19 0 (by omega)).trans d5, g2 19 1 (by omega), g2 19 2 (by omega), g2 19 3 (by omega), fun j hj => ?_, z2, rfl, rfl, rfl, rfl⟩ ((g2 0 10 (by omega)).trans fa) (g2 1 1 (by omega))
    · rw [s2_ne _ _ (by omega), s2_ne _ _ (by omega), s2_ne _ _ (by omega), s2_ne _ _ (by omega), g2 k j (by omega), sr_ne _ _ (by omega), s2_ne _ _ (by omega), s2_ne _ _ (by omega), s2_ne _ _ (by omega), s2_ne _ _ (by omega), sr_ne _ _ (by omega), sr_ne _ _ (by omega), sr_ne _ _ (by omega), sr_ne _ _ (by omega), sr_ne _ _ (by omega), sr_ne _ _ (by omega), sr_ne _ _ (by omega), s2_ne _ _ (by omega), s2_ne _ _ (by omega), s2_ne _ _ (by omega), s2_ne _ _ (by omega), s2_ne _ _ (by omega), s2_ne _ _ (by omega), s2_ne _ _ (by omega)]
      exact f1 k j (fun e => by omega) (by omega)
    · refine ((g2 12 j (by omega)).trans ?_).trans (d6 j hj).1
      exact cpy0 (n := 12) (by have := b0.2.1; omega)
    · refine ((g2 13 j (by omega)).trans ?_).trans (d6 j hj).2.1
      exact cpy0 (n := 12) (by have := b0.2.1; omega)
    · refine ((g2 14 j (by omega)).trans ?_).trans (d6 j hj).2.2
      exact cpy0 (n := 12) (by have := b0.2.1; omega)
    · refine ((g2 16 j (by omega)).trans ?_).trans (d7 j hj).1
      exact cpy0 (n := 5) (by have := b0.2.2.1; omega)
    · refine ((g2 18 j (by omega)).trans ?_).trans (d8 j hj)
      exact cpy0 (n := 4) (by have := b0.2.2.2; omega)
    · refine ((g2 20 j (by omega)).trans ?_).trans (d7 j hj).2
      refine (cpy0 (n := 5) (by have := b0.2.2.1; omega)).trans ?_
      exact cpy0 (n := 5) (by have := b0.2.2.1; omega)
  · have hne := h1.ne
    obtain ⟨e0, q, na, R1⟩ := h1
    have e3 : σ1 1 3 = Int32.ofNat (pz T).1 := R1.2.2.1
    have fa : σ1 1 2 = Int32.ofNat (pz T).2.1 := R1.2.2.2.1
    rw [if_neg hne, e3]
    refine no e0 R1.2.2.2.2.2.1 _ (fun k j h1 h2 h3 => ?_) fa rfl
    rw [s2_ne _ _ h1, s2_ne _ _ (by omega)]
    exact f1 k j (fun e => absurd e h2) h3
