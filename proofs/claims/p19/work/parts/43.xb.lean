/-! what can be undone -/
def RC (x n : Nat) (σ σ' : St) : Prop := σ' 24 1 = Int32.ofNat ((x + 1) % 16) ∧ σ' 24 2 = Int32.ofNat (min 16 (n + 1)) ∧ ∀ j, σ' 23 j = if 15 * x ≤ j ∧ j < 15 * x + 15 then cls σ (j - 15 * x) else σ 23 j
def RMm (n : Nat) (σ σ' : St) : Prop := σ' 39 32 = Int32.ofNat (min 16 (n + 1)) ∧ ∀ j, j < 224 → σ' 56 j = if 14 * (min 16 (n + 1) - 1) ≤ j ∧ j < 14 * (min 16 (n + 1) - 1) + 14 then σ 46 (j - 14 * (min 16 (n + 1) - 1)) else if n = 16 then σ 56 (j + 14) else σ 56 j
def UNx (D : Nat → Prop) (σ : St) (x n : Nat) : Prop := σ 24 1 = Int32.ofNat x ∧ x < 16 ∧ σ 24 2 = Int32.ofNat n ∧ n ≤ 16 ∧ σ 39 32 = Int32.ofNat n ∧ ∀ k, k < n → ∀ c, D c → σ 23 (15 * ((x + 15 - k) % 16) + c) = σ 56 (14 * (n - 1 - k) + mu c)
theorem nx16 : ∀ x : Fin 16, (Int32.ofNat x.val + 1) - (Int32.ofNat x.val + 1) / 16 * 16 = Int32.ofNat ((x.val + 1) % 16) ∧ ((Int32.ofNat x.val + 16) - 1) - ((Int32.ofNat x.val + 16) - 1) / 16 * 16 = Int32.ofNat ((x.val + 15) % 16) := by decide +kernel
theorem nc16 : ∀ n : Fin 17, (if (Int32.ofNat n.val + 1) < 16 then (Int32.ofNat n.val + 1) else 16) = Int32.ofNat (min 16 (n.val + 1)) := by decide +kernel
/-- remember -/
theorem s_9 {σ : St} {x n : Nat} {K : St → Prop} (h22 : σ 22 0 = 16) (hx : x < 16) (hn : n ≤ 16) (e1 : σ 24 1 = Int32.ofNat x) (e2 : σ 24 2 = Int32.ofNat n) (hK : ∀ σ', RC x n σ σ' → (∀ k j, ¬ k = 23 → ¬ (k = 24 ∧ (j = 1 ∨ j = 2)) → σ' k j = σ k j) → K σ') : CV 9 [.ref 24, .ref 19] σ K := by
  refine w_9 ?_
  rw [e1]
  refine p_22 hx h22 fun σ1 f1 r1 => ?_
  rw [(f1 24 1 (by decide)).trans e1, (f1 24 2 (by decide)).trans e2, (nx16 ⟨x, hx⟩).1, nc16 ⟨n, by omega⟩]
  refine hK _ ⟨rfl, rfl, fun j => r1 j⟩ (fun k j h1 h2 => ?_)
  rw [s2_ne _ _ (by omega), s2_ne _ _ (by omega)]
  exact f1 k j h1
theorem s_153a {σ0 : St} {K : St → Prop} (e0 : σ0 39 32 = 16) (hK : ∀ σ', (∀ k j, ¬ k = 56 → ¬ (k = 39 ∧ j = 32) → σ' k j = σ0 k j) → σ' 39 32 = Int32.ofNat 15 → (∀ j, j < 224 → σ' 56 j = if j < 210 then σ0 56 (j + 14) else σ0 56 j) → PV 153 52 [some (.ref 39), some (.int 0)] [] σ' K) : ∀ (d i : Nat) {σ : St}, i + d = 224 → 14 ≤ i → (∀ k j, ¬ k = 56 → σ k j = σ0 k j) → (∀ j, j < 224 → σ 56 j = if j + 14 < i then σ0 56 (j + 14) else σ0 56 j) → PV 153 12 [some (.ref 39), some (.int (Int32.ofNat i))] [] σ K := by
  have l224 : (224 : Int32).toInt = 224 := rfl
  have l14 : (14 : Int32).toInt = 14 := rfl
  intro d
  induction d with
  | zero =>
    intro i σ hi h14 hf hr
    refine w_153_12 ?_
    rw [if_pos (by rw [Int32.le_iff_toInt_le, l224, ti_of (by omega)]; omega), (hf 39 32 (by decide)).trans e0]
    refine hK _ (fun k j h1 h2 => by rw [s2_ne _ _ h2]; exact hf k j h1) rfl (fun j hj => ?_)
    refine (hr j hj).trans ?_
    by_cases c : j < 210
    · rw [if_pos c, if_pos (by omega)]
    · rw [if_neg c, if_neg (by omega)]
  | succ d ih =>
    intro i σ hi h14 hf hr
    refine w_153_12 ?_
    have em : (Int32.ofNat i - 14).toInt = (i : Int) - 14 := by rw [ti_sub (by rw [ti_of (by omega), l14]; omega) (by rw [ti_of (by omega), l14]; omega), ti_of (by omega), l14]
    have ec : (Int32.ofNat i - 14).toNatClampNeg = i - 14 := by rw [tc_ti, em]; omega
    rw [if_neg (by rw [Int32.le_iff_toInt_le, l224, ti_of (by omega)]; omega)]
    refine ⟨by rw [ti_of (by omega)]; omega, by rw [em]; omega, ?_⟩
    rw [ec, tc_of (by omega), of_s]
    refine ih (i + 1) (by omega) (by omega) (fun k j hk => by rw [s2_ne _ _ (fun z => hk z.1)]; exact hf k j hk) (fun j hj => ?_)
    show (if j = i - 14 then σ 56 i else σ 56 j) = _
    by_cases c : j = i - 14
    · have e : j + 14 = i := by omega
      rw [if_pos c, hr i (by omega), if_neg (by omega), if_pos (by omega), e]
    · rw [if_neg c, hr j hj]
      by_cases c2 : j + 14 < i
      · rw [if_pos c2, if_pos (by omega)]
      · rw [if_neg c2, if_neg (by omega)]
theorem s_153b {τ : St} {u : Nat} {K : St → Prop} (hu : u ≤ 15) (e0 : τ 39 32 = Int32.ofNat u) (hK : ∀ σ', (∀ k j, ¬ k = 56 → ¬ (k = 39 ∧ j = 32) → σ' k j = τ k j) → σ' 39 32 = Int32.ofNat (u + 1) → (∀ j, σ' 56 j = if 14 * u ≤ j ∧ j < 14 * u + 14 then τ 46 (j - 14 * u) else τ 56 j) → K σ') : ∀ (d i : Nat) {σ : St}, i + d = 14 → (∀ k j, ¬ k = 56 → σ k j = τ k j) → (∀ j, σ 56 j = if 14 * u ≤ j ∧ j < 14 * u + i then τ 46 (j - 14 * u) else τ 56 j) → PV 153 52 [some (.ref 39), some (.int (Int32.ofNat i))] [] σ K := by
  have l14 : (14 : Int32).toInt = 14 := rfl
  intro d
  induction d with
  | zero =>
    intro i σ hi hf hr
    refine w_153_52 ?_
    have e14 : i = 14 := by omega
    rw [if_pos (by rw [Int32.le_iff_toInt_le, l14, ti_of (by omega)]; omega), (hf 39 32 (by decide)).trans e0, of_s]
    rw [e14] at hr
    exact hK _ (fun k j h1 h2 => by rw [s2_ne _ _ h2]; exact hf k j h1) rfl (fun j => hr j)
  | succ d ih =>
    intro i σ hi hf hr
    refine w_153_52 ?_
    rw [if_neg (by rw [Int32.le_iff_toInt_le, l14, ti_of (by omega)]; omega), (hf 39 32 (by decide)).trans e0]
    have e1 : (14 * Int32.ofNat u).toInt = 14 * (u : Int) := by rw [ti_mul (by rw [ti_of (by omega), l14]; omega) (by rw [ti_of (by omega), l14]; omega), ti_of (by omega), l14]
    have e2 : (14 * Int32.ofNat u + Int32.ofNat i).toInt = 14 * (u : Int) + i := by rw [ti_add (by rw [e1, ti_of (by omega)]; omega) (by rw [e1, ti_of (by omega)]; omega), e1, ti_of (by omega)]
    have ec : (14 * Int32.ofNat u + Int32.ofNat i).toNatClampNeg = 14 * u + i := by rw [tc_ti, e2]; omega
    refine ⟨by rw [ti_of (by omega)]; omega, by rw [e2]; omega, ?_⟩
    rw [ec, tc_of (by omega), of_s, hf 46 i (by decide)]
    refine ih (i + 1) (by omega) (fun k j hk => by rw [s2_ne _ _ (fun z => hk z.1)]; exact hf k j hk) (fun j => ?_)
    show (if j = 14 * u + i then τ 46 i else σ 56 j) = _
    by_cases c : j = 14 * u + i
    · have e : j - 14 * u = i := by omega
      rw [if_pos c, if_pos (by omega), e]
    · rw [if_neg c, hr j]
      by_cases c2 : 14 * u ≤ j ∧ j < 14 * u + i
      · rw [if_pos c2, if_pos (by omega)]
      · rw [if_neg c2, if_neg (by omega)]
theorem s_153 {σ : St} {n : Nat} {K : St → Prop} (hn : n ≤ 16) (e0 : σ 39 32 = Int32.ofNat n) (hK : ∀ σ', RMm n σ σ' → (∀ k j, ¬ k = 56 → ¬ (k = 39 ∧ j = 32) → σ' k j = σ k j) → K σ') : CV 153 [.ref 39] σ K := by
  refine w_153 ?_
  by_cases c : n = 16
  · have e16 : σ 39 32 = 16 := by rw [e0, c]; rfl
    rw [if_pos e16]
    refine s_153a (σ0 := σ) e16 (fun σ1 f1 g1 r1 => ?_) 210 14 (by omega) (by omega) (fun _ _ _ => rfl) (fun j _ => by rw [if_neg (by omega)])
    refine s_153b (τ := σ1) (u := 15) (by omega) g1 (fun σ2 f2 g2 r2 => hK σ2 ⟨?_, fun j hj => ?_⟩ (fun k j h1 h2 => (f2 k j h1 h2).trans (f1 k j h1 h2))) 14 0 (by omega) (fun _ _ _ => rfl) (fun j => by rw [if_neg (by omega)])
    · rw [g2, c]; rfl
    · have em : min 16 (n + 1) - 1 = 15 := by omega
      rw [r2 j, em]
      by_cases c2 : 14 * 15 ≤ j ∧ j < 14 * 15 + 14
      · rw [if_pos c2, if_pos c2]; exact f1 46 _ (by decide) (by omega)
      · rw [if_neg c2, if_neg c2, if_pos c, r1 j hj, if_pos (by omega)]
  · rw [if_neg (show ¬ σ 39 32 = 16 from fun z => c (of_inj (m := 16) (by omega) (by omega) (e0.symm.trans z)))]
    refine s_153b (τ := σ) (u := n) (by omega) e0 (fun σ2 f2 g2 r2 => hK σ2 ⟨?_, fun j hj => ?_⟩ f2) 14 0 (by omega) (fun _ _ _ => rfl) (fun j => by rw [if_neg (by omega)])
    · have em : min 16 (n + 1) = n + 1 := by omega
      rw [g2, em]
    · have em : min 16 (n + 1) - 1 = n := by omega
      rw [r2 j, em]
      by_cases c2 : 14 * n ≤ j ∧ j < 14 * n + 14
      · rw [if_pos c2, if_pos c2]
      · rw [if_neg c2, if_neg c2, if_neg c]
theorem un_rem {D : Nat → Prop} {σ σ' : St} (hD : ∀ c, D c → c < 15 ∧ ¬ c = 4) {x n : Nat} (h : UNx D σ x n) (hN : ∀ c, D c → cls σ c = σ 46 (mu c)) (hc : RC x n σ σ') (hm : RMm n σ σ') : UNx D σ' ((x + 1) % 16) (min 16 (n + 1)) := by
  obtain ⟨-, hx, -, hn, -, hr⟩ := h
  refine ⟨hc.1, Nat.mod_lt _ (by decide), hc.2.1, Nat.min_le_left _ _, hm.1, fun k hk c hcD => ?_⟩
  obtain ⟨c15, c4⟩ := hD c hcD
  have m14 := mu_lt c15 c4
  by_cases k0 : k = 0
  · have e : ((x + 1) % 16 + 15 - k) % 16 = x := by omega
    have e2 : 15 * x + c - 15 * x = c := by omega
    have e3 : min 16 (n + 1) - 1 - k = min 16 (n + 1) - 1 := by omega
    rw [e, hc.2.2, if_pos (by omega), e2, e3, hm.2 _ (by omega), if_pos (by omega)]
    have e4 : 14 * (min 16 (n + 1) - 1) + mu c - 14 * (min 16 (n + 1) - 1) = mu c := by omega
    rw [e4]
    exact hN c hcD
  · have e : ((x + 1) % 16 + 15 - k) % 16 = (x + 15 - (k - 1)) % 16 := by omega
    have ne : (x + 15 - (k - 1)) % 16 ≠ x := by omega
    have lt : (x + 15 - (k - 1)) % 16 < 16 := Nat.mod_lt _ (by decide)
    have h1 := hr (k - 1) (by omega) c hcD
    rw [e]
    generalize (x + 15 - (k - 1)) % 16 = s at ne lt h1 ⊢
    rw [hc.2.2, if_neg (by omega), hm.2 _ (by omega), if_neg (by omega), h1]
    by_cases c16 : n = 16
    · rw [if_pos c16]
      congr 1
      omega
    · rw [if_neg c16]
      congr 1
      omega
/-- undo -/
theorem s_68 {σ : St} {x n : Nat} {K : Int32 → St → Prop} (h22 : σ 22 0 = 16) (hx : x < 16) (hn : n ≤ 16) (e1 : σ 24 1 = Int32.ofNat x) (e2 : σ 24 2 = Int32.ofNat n) (k0 : n = 0 → K (-1000000003) σ) (k1 : ¬ n = 0 → ∀ σ', (∀ k j, ¬ k = 19 → ¬ k = 20 → ¬ k = 21 → ¬ (k = 24 ∧ (j = 1 ∨ j = 2)) → σ' k j = σ k j) → σ' 24 1 = Int32.ofNat ((x + 15) % 16) → σ' 24 2 = Int32.ofNat (n - 1) → (∀ c, c < 15 → ¬ c = 4 → cls σ' c = σ 23 (15 * ((x + 15) % 16) + c)) → σ' 19 4 = σ 19 4 → K (Int32.ofNat (n - 1)) σ') : CI 68 [.ref 0] σ K := by
  refine w_68 ?_
  by_cases c : n = 0
  · rw [e2, if_pos (by rw [c]; rfl)]
    exact k0 c
  · have ne : ¬ σ 24 2 = 0 := by rw [e2]; exact fun z => c ((of_z (by omega)).mp z)
    rw [if_neg ne]
    refine w_10 ?_
    rw [if_neg ne, e1, (nx16 ⟨x, hx⟩).2, e2]
    have l1 : (1 : Int32).toInt = 1 := rfl
    have em : Int32.ofNat n - 1 = Int32.ofNat (n - 1) := by
      refine ti_inj ?_
      rw [ti_sub (by rw [ti_of (by omega), l1]; omega) (by rw [ti_of (by omega), l1]; omega), ti_of (by omega), ti_of (by omega), l1]
      omega
    rw [em]
    refine f_22 (Nat.mod_lt _ (by decide)) h22 fun σ1 f1 r1 => ?_
    have g : σ1 24 2 = Int32.ofNat (n - 1) := f1 24 2 (by decide) (by decide) (by decide)
    rw [g]
    refine k1 c _ (fun k j h1 h2 h3 h4 => ?_) (f1 24 1 (by decide) (by decide) (by decide)) g (fun c' h1 h2 => ?_) rfl
    · rw [s2_ne _ _ (by omega), f1 k j h1 h2 h3, s2_ne _ _ (by omega), s2_ne _ _ (by omega)]
    · refine Eq.trans ?_ (r1 c' h1)
      unfold cls
      split
      · exact s2_ne _ _ (by omega)
      · split
        · exact s2_ne _ _ (by omega)
        · exact s2_ne _ _ (by omega)
theorem s_169l {τ : St} {u : Nat} {K : Int32 → St → Prop} (hu : u ≤ 15) (e0 : τ 39 32 = Int32.ofNat u) (hK : ∀ σ', (∀ k j, ¬ k = 46 → σ' k j = τ k j) → (∀ j, j < 14 → σ' 46 j = τ 56 (14 * u + j)) → K (Int32.ofNat u) σ') : ∀ (d i : Nat) {σ : St}, i + d = 14 → (∀ k j, ¬ k = 46 → σ k j = τ k j) → (∀ j, j < i → σ 46 j = τ 56 (14 * u + j)) → PI 169 23 [some (.ref 39), some (.int (Int32.ofNat i))] [] σ K := by
  have l14 : (14 : Int32).toInt = 14 := rfl
  intro d
  induction d with
  | zero =>
    intro i σ hi hf hr
    refine w_169_23 ?_
    rw [if_pos (by rw [Int32.le_iff_toInt_le, l14, ti_of (by omega)]; omega), (hf 39 32 (by decide)).trans e0]
    exact hK σ hf (fun j hj => hr j (by omega))
  | succ d ih =>
    intro i σ hi hf hr
    refine w_169_23 ?_
    rw [if_neg (by rw [Int32.le_iff_toInt_le, l14, ti_of (by omega)]; omega), (hf 39 32 (by decide)).trans e0]
    have e1 : (14 * Int32.ofNat u).toInt = 14 * (u : Int) := by rw [ti_mul (by rw [ti_of (by omega), l14]; omega) (by rw [ti_of (by omega), l14]; omega), ti_of (by omega), l14]
    have e2 : (14 * Int32.ofNat u + Int32.ofNat i).toInt = 14 * (u : Int) + i := by rw [ti_add (by rw [e1, ti_of (by omega)]; omega) (by rw [e1, ti_of (by omega)]; omega), e1, ti_of (by omega)]
    have ec : (14 * Int32.ofNat u + Int32.ofNat i).toNatClampNeg = 14 * u + i := by rw [tc_ti, e2]; omega
    refine ⟨by rw [e2]; omega, by rw [ti_of (by omega)]; omega, ?_⟩
    rw [ec, tc_of (by omega), of_s, hf 56 _ (by decide)]
    refine ih (i + 1) (by omega) (fun k j hk => by rw [s2_ne _ _ (fun z => hk z.1)]; exact hf k j hk) (fun j hj => ?_)
    show (if j = i then τ 56 (14 * u + i) else σ 46 j) = _
    by_cases c : j = i
    · rw [if_pos c, c]
    · rw [if_neg c]; exact hr j (by omega)
theorem s_169 {σ : St} {n : Nat} {K : Int32 → St → Prop} (hn : n ≤ 16) (e0 : σ 39 32 = Int32.ofNat n) (k0 : n = 0 → K (-1000000003) σ) (k1 : ¬ n = 0 → ∀ σ', (∀ k j, ¬ k = 46 → ¬ (k = 39 ∧ j = 32) → σ' k j = σ k j) → σ' 39 32 = Int32.ofNat (n - 1) → (∀ j, j < 14 → σ' 46 j = σ 56 (14 * (n - 1) + j)) → K (Int32.ofNat (n - 1)) σ') : CI 169 [.ref 39] σ K := by
  refine w_169 ?_
  by_cases c : n = 0
  · rw [e0, if_pos (by rw [c]; rfl)]
    exact k0 c
  · have ne : ¬ σ 39 32 = 0 := by rw [e0]; exact fun z => c ((of_z (by omega)).mp z)
    rw [if_neg ne, e0]
    have l1 : (1 : Int32).toInt = 1 := rfl
    have em : Int32.ofNat n - 1 = Int32.ofNat (n - 1) := by
      refine ti_inj ?_
      rw [ti_sub (by rw [ti_of (by omega), l1]; omega) (by rw [ti_of (by omega), l1]; omega), ti_of (by omega), ti_of (by omega), l1]
      omega
    rw [em]
    refine s_169l (τ := s2 σ 39 32 (Int32.ofNat (n - 1))) (u := n - 1) (by omega) rfl (fun σ1 f1 r1 => ?_) 14 0 (by omega) (fun _ _ _ => rfl) (fun j hj => absurd hj (Nat.not_lt_zero j))
    exact k1 c σ1 (fun k j h1 h2 => (f1 k j h1).trans (s2_ne _ _ h2)) (f1 39 32 (by decide)) (fun j hj => r1 j hj)
theorem un_undo {D : Nat → Prop} {σ σ' : St} {x n : Nat} (h : UNx D σ x n) (h0 : ¬ n = 0) (g1 : σ' 24 1 = Int32.ofNat ((x + 15) % 16)) (g2 : σ' 24 2 = Int32.ofNat (n - 1)) (g3 : σ' 39 32 = Int32.ofNat (n - 1)) (r1 : ∀ j, σ' 23 j = σ 23 j) (r2 : ∀ j, σ' 56 j = σ 56 j) : UNx D σ' ((x + 15) % 16) (n - 1) := by
  obtain ⟨-, hx, -, hn, -, hr⟩ := h
  refine ⟨g1, Nat.mod_lt _ (by decide), g2, by omega, g3, fun k hk c hc => ?_⟩
  have h1 := hr (k + 1) (by omega) c hc
  have e : ((x + 15) % 16 + 15 - k) % 16 = (x + 15 - (k + 1)) % 16 := by omega
  have e2 : n - 1 - 1 - k = n - 1 - (k + 1) := by omega
  rw [r1, r2, e, e2]
  exact h1
