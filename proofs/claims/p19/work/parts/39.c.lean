/-! the class's draft -/
def DR (σ : St) (P : PS) : Prop := PB P ∧ σ 3 0 = Int32.ofNat (P.1 0) ∧ σ 3 1 = Int32.ofNat (P.1 1) ∧ σ 3 2 = Int32.ofNat (P.1 2) ∧ σ 3 3 = Int32.ofNat (P.1 3) ∧ σ 3 4 = P.2.1 ∧ (∀ j, j < P.1 1 → σ 4 j = P.2.2 0 j ∧ σ 5 j = P.2.2 1 j ∧ σ 6 j = P.2.2 2 j) ∧ (∀ j, j < P.1 2 → σ 8 j = P.2.2 3 j ∧ σ 9 j = P.2.2 4 j) ∧ (∀ j, j < P.1 3 → σ 10 j = P.2.2 5 j) ∧ LKd (P.1 1) (P.2.2 2) (σ 7)
def FrD (σ σ' : St) : Prop := ∀ k j : Nat, (k = 1 → j < 2 ∨ 5 < j) → (k < 3 ∨ 10 < k) → σ' k j = σ k j
theorem Fr1.d {σ σ' : St} (h : Fr1 σ σ') : FrD σ σ' := fun k j h1 _ => h k j h1
theorem FrD.tr {σ σ1 σ2 : St} (h : FrD σ σ1) (h' : FrD σ1 σ2) : FrD σ σ2 := fun k j h1 h2 => (h' k j h1 h2).trans (h k j h1 h2)
theorem FrD.of {σ σ' : St} (h : ∀ k j, (k < 3 ∨ 10 < k) → σ' k j = σ k j) : FrD σ σ' := fun k j _ h2 => h k j h2
theorem DR.ex {σ σ' : St} {P : PS} (h : DR σ P) (e : ∀ k j, 3 ≤ k → k ≤ 10 → σ' k j = σ k j) : DR σ' P := by
  obtain ⟨h0, h1, h2, h3, h4, h5, h6, h7, h8, h9⟩ := h
  have e3 := fun j => e 3 j (by omega) (by omega)
  have e7 : σ' 7 = σ 7 := funext fun j => e 7 j (by omega) (by omega)
  refine ⟨h0, by rw [e3]; exact h1, by rw [e3]; exact h2, by rw [e3]; exact h3, by rw [e3]; exact h4, by rw [e3]; exact h5, fun j hj => ?_, fun j hj => ?_, fun j hj => ?_, by rw [e7]; exact h9⟩
  · rw [e 4 j (by omega) (by omega), e 5 j (by omega) (by omega), e 6 j (by omega) (by omega)]; exact h6 j hj
  · rw [e 8 j (by omega) (by omega), e 9 j (by omega) (by omega)]; exact h7 j hj
  · rw [e 10 j (by omega) (by omega)]; exact h8 j hj
theorem DR.fr {σ σ' : St} {P : PS} (h : DR σ P) (f : Fr1 σ σ') : DR σ' P := h.ex fun k j h1 _ => f k j (fun e => by omega)
theorem jn_mono {r : Nat → Nat → Int32} {a b : Int32} {i : Nat} (h : jn r a b i = true) : ∀ {L : Nat}, i ≤ L → jn r a b L = true := by
  intro L hL
  induction L with
  | zero => have e : i = 0 := by omega
            rw [e] at h; exact h
  | succ L ih =>
    by_cases c : i = L + 1
    · rw [← c]; exact h
    · unfold jn; rw [ih (by omega)]; rfl
theorem jn_key {A B C D : Prop} [Decidable A] [Decidable B] [Decidable C] [Decidable D] {K N : Prop} (h1 : (A ∧ B ∨ C ∧ D) → K) (h2 : ¬ (A ∧ B ∨ C ∧ D) → N) : (if A then (if B then K else (if C then (if D then K else N) else N)) else (if C then (if D then K else N) else N)) := by
  by_cases a : A <;> by_cases b : B <;> by_cases c : C <;> by_cases d : D <;> simp_all
/-- joins -/
theorem s_17l {σ : St} {P : PS} {a b : Int32} {K : Int32 → St → Prop} (hD : DR σ P) (hK : K (bif jn P.2.2 a b (P.1 1) then 1 else 0) σ) : ∀ (d i : Nat), i + d = P.1 1 → jn P.2.2 a b i = false → PI 17 2 [some (.ref 3), some (.int a), some (.int b), some (.int (Int32.ofNat i))] [] σ K := by
  have hL : P.1 1 ≤ 12 := hD.1.2.1
  intro d
  induction d with
  | zero =>
    intro i hi hj
    refine w_17_2 ?_
    rw [hD.2.2.1, if_pos (by rw [Int32.le_iff_toInt_le, ti_of (by omega), ti_of (by omega)]; omega)]
    have e : i = P.1 1 := by omega
    rw [← e, hj] at hK
    exact hK
  | succ d ih =>
    intro i hi hj
    refine w_17_2 ?_
    rw [hD.2.2.1, if_neg (by rw [Int32.le_iff_toInt_le, ti_of (by omega), ti_of (by omega)]; omega)]
    refine ⟨by rw [ti_of (by omega)]; omega, ?_⟩
    rw [tc_of (by omega), (hD.2.2.2.2.2.2.1 i (by omega)).1, (hD.2.2.2.2.2.2.1 i (by omega)).2.1, of_s]
    refine jn_key (fun h => ?_) (fun h => ?_)
    · have e : jn P.2.2 a b (i + 1) = true := by
        unfold jn
        rw [hj, Bool.false_or, Bool.or_eq_true, decide_eq_true_eq, decide_eq_true_eq]
        exact h
      rw [jn_mono e (by omega)] at hK
      exact hK
    · refine ih (i + 1) (by omega) ?_
      unfold jn
      rw [hj, Bool.false_or, Bool.or_eq_false_iff, decide_eq_false_iff_not, decide_eq_false_iff_not]
      exact ⟨fun z => h (Or.inl z), fun z => h (Or.inr z)⟩
theorem s_17 {σ : St} {P : PS} {a b : Int32} {K : Int32 → St → Prop} (hD : DR σ P) (hK : K (bif jn P.2.2 a b (P.1 1) then 1 else 0) σ) : CI 17 [.ref 3, .int a, .int b] σ K := w_17 (s_17l hD hK (P.1 1) 0 (by omega) rfl)
/-- worthOf -/
theorem s_18 {σ : St} {x : Int32} {K : Int32 → St → Prop} (hK : ∀ v, K v σ) : CI 18 [.ref 3, .int x] σ K := by
  refine w_18 ?_
  have l0 : (0 : Int32).toInt = 0 := rfl
  have l1 : (12 : Int32).toInt = 12 := rfl
  split
  · exact hK _
  · split
    · exact hK _
    · rename_i c1 c2
      rw [Int32.lt_iff_toInt_lt, l0] at c1
      rw [Int32.le_iff_toInt_le, l1] at c2
      exact ⟨by omega, hK _⟩
theorem s_18v {σ : St} {l : Nat} {K : Int32 → St → Prop} (hl : l < 12) (hK : K (σ 6 l) σ) : CI 18 [.ref 3, .int (Int32.ofNat l)] σ K := by
  have l0 : (0 : Int32).toInt = 0 := rfl
  have l12 : (12 : Int32).toInt = 12 := rfl
  refine w_18 ?_
  rw [if_neg (by rw [Int32.lt_iff_toInt_lt, ti_of (by omega), l0]; omega), if_neg (by rw [Int32.le_iff_toInt_le, ti_of (by omega), l12]; omega), tc_of (by omega)]
  exact ⟨by rw [ti_of (by omega)]; omega, hK⟩
/-- addLine -/
theorem DR.pL {σ σ' : St} {P : PS} {a b t w : Int32} (h : DR σ P) (hl : P.1 1 < 12) (e3 : ∀ j, ¬ j = 1 → ¬ j = 4 → σ' 3 j = σ 3 j) (e1 : σ' 3 1 = Int32.ofNat (P.1 1 + 1)) (e4 : σ' 3 4 = P.2.1 ||| (t <<< (Int32.ofNat (P.1 1) &&& 31))) (r4 : ∀ j, σ' 4 j = if j = P.1 1 then a else σ 4 j) (r5 : ∀ j, σ' 5 j = if j = P.1 1 then b else σ 5 j) (r6 : ∀ j, σ' 6 j = if j = P.1 1 then w else σ 6 j) (r : ∀ k j, 8 ≤ k → k ≤ 10 → σ' k j = σ k j) (r7 : LKd (P.1 1 + 1) (fun j => if j = P.1 1 then w else P.2.2 2 j) (σ' 7)) : DR σ' (pL P a b t w) := by
  obtain ⟨h0, h1, h2, h3, h4, h5, h6, h7, h8, h9⟩ := h
  refine ⟨⟨h0.1, hl, h0.2.2.1, h0.2.2.2⟩, by rw [e3 0 (by omega) (by omega)]; exact h1, e1, by rw [e3 2 (by omega) (by omega)]; exact h3, by rw [e3 3 (by omega) (by omega)]; exact h4, e4, fun j hj => ?_, fun j hj => ?_, fun j hj => ?_, r7⟩
  · rw [r4, r5, r6]
    show (if j = P.1 1 then a else σ 4 j) = (if j = P.1 1 then a else P.2.2 0 j) ∧ (if j = P.1 1 then b else σ 5 j) = (if j = P.1 1 then b else P.2.2 1 j) ∧ (if j = P.1 1 then w else σ 6 j) = (if j = P.1 1 then w else P.2.2 2 j)
    by_cases c : j = P.1 1
    · simp only [if_pos c, true_and]
    · simp only [if_neg c]
      exact h6 j (by have : j < P.1 1 + 1 := hj; omega)
  · rw [r 8 j (by omega) (by omega), r 9 j (by omega) (by omega)]; exact h7 j hj
  · rw [r 10 j (by omega) (by omega)]; exact h8 j hj
theorem s_14l {σ0 : St} {P : PS} {a b t w : Int32} {f : Nat → Nat} {K : St → Prop} (hD : DR σ0 P) (hl : P.1 1 < 12) (hf0 : LKp (P.1 1) (P.2.2 2) f) (hK : ∀ σ', (∀ k j, (k < 3 ∨ 7 < k) → σ' k j = σ0 k j) → DR σ' (pL P a b t w) → K σ') : ∀ (i : Nat) (σ : St), i ≤ P.1 1 → (∀ k j, ¬ k = 7 → σ k j = σ0 k j) → (∀ j, j < i → σ 7 j = Int32.ofNat (f j)) → (∀ j, i ≤ j → j < P.1 1 → σ 7 (j + 1) = Int32.ofNat (f j) ∧ (P.2.2 2 (f j)).toInt < w.toInt) → PV 14 16 [some (.ref 3), some (.int a), some (.int b), some (.int t), some (.int w), some (.int (Int32.ofNat i))] [] σ K := by
  have fin : ∀ (i : Nat) (σ : St), i ≤ P.1 1 → (∀ k j, ¬ k = 7 → σ k j = σ0 k j) → (∀ j, j < i → σ 7 j = Int32.ofNat (f j)) → (∀ j, i ≤ j → j < P.1 1 → σ 7 (j + 1) = Int32.ofNat (f j) ∧ (P.2.2 2 (f j)).toInt < w.toInt) → (i = 0 ∨ w.toInt ≤ (P.2.2 2 (f (i - 1))).toInt) → K (s2 (s2 (s2 (s2 (s2 (s2 σ 7 (Int32.toNatClampNeg (Int32.ofNat i)) (σ 3 1)) 4 (Int32.toNatClampNeg (σ 3 1)) a) 5 (Int32.toNatClampNeg (σ 3 1)) b) 6 (Int32.toNatClampNeg (σ 3 1)) w) 3 4 ((σ 3 4) ||| (t <<< ((σ 3 1) &&& 31)))) 3 1 ((σ 3 1) + 1)) := by
    intro i σ hi hf g1 g2 g3
    have e1 : σ 3 1 = Int32.ofNat (P.1 1) := (hf 3 1 (by omega)).trans hD.2.2.1
    have e4 : σ 3 4 = P.2.1 := (hf 3 4 (by omega)).trans hD.2.2.2.2.2.1
    rw [e1, e4, tc_of (by omega), tc_of (by omega), of_s]
    refine hK _ (fun k j hk => ?_) ?_
    · rw [s2_ne _ _ (by omega), s2_ne _ _ (by omega), s2_ne _ _ (by omega), s2_ne _ _ (by omega), s2_ne _ _ (by omega), s2_ne _ _ (by omega)]
      exact hf k j (by omega)
    · refine hD.pL hl (fun j h1 h2 => ?_) rfl rfl (fun j => ?_) (fun j => ?_) (fun j => ?_) (fun k j h1 h2 => ?_) (LK_ins hf0 hi (fun j hj => ?_) (fun j h1 h2 => ?_) g3 ?_)
      · rw [s2_ne _ _ (by omega), s2_ne _ _ (by omega), s2_ne _ _ (by omega), s2_ne _ _ (by omega), s2_ne _ _ (by omega), s2_ne _ _ (by omega)]
        exact hf 3 j (by omega)
      · show (if j = P.1 1 then a else σ 4 j) = _
        rw [hf 4 j (by omega)]
      · show (if j = P.1 1 then b else σ 5 j) = _
        rw [hf 5 j (by omega)]
      · show (if j = P.1 1 then w else σ 6 j) = _
        rw [hf 6 j (by omega)]
      · rw [s2_ne _ _ (by omega), s2_ne _ _ (by omega), s2_ne _ _ (by omega), s2_ne _ _ (by omega), s2_ne _ _ (by omega), s2_ne _ _ (by omega)]
        exact hf k j (by omega)
      · show (if j = i then Int32.ofNat (P.1 1) else σ 7 j) = _
        rw [if_neg (by omega)]; exact g1 j hj
      · show (if j + 1 = i then Int32.ofNat (P.1 1) else σ 7 (j + 1)) = _ ∧ _
        rw [if_neg (by omega)]; exact g2 j h1 h2
      · show (if i = i then Int32.ofNat (P.1 1) else σ 7 i) = _
        rw [if_pos rfl]
  intro i
  induction i with
  | zero =>
    intro σ hi hf g1 g2
    refine w_14_16 ?_
    have e1 : σ 3 1 = Int32.ofNat (P.1 1) := (hf 3 1 (by omega)).trans hD.2.2.1
    rw [if_pos (by decide)]
    refine ⟨by decide, by rw [e1, ti_of (by omega)]; omega, fin 0 σ hi hf g1 g2 (Or.inl rfl)⟩
  | succ i ih =>
    intro σ hi hf g1 g2
    refine w_14_16 ?_
    have e1 : σ 3 1 = Int32.ofNat (P.1 1) := (hf 3 1 (by omega)).trans hD.2.2.1
    have l0 : (0 : Int32).toInt = 0 := rfl
    have l1 : (1 : Int32).toInt = 1 := rfl
    have em : Int32.ofNat (i + 1) - 1 = Int32.ofNat i := by
      refine ti_inj ?_
      rw [ti_sub (by rw [ti_of (by omega), l1]; omega) (by rw [ti_of (by omega), l1]; omega), ti_of (by omega), ti_of (by omega), l1]
      omega
    have l2 : (-1 : Int32).toInt = -1 := rfl
    have em2 : Int32.ofNat (i + 1) + (-1) = Int32.ofNat i := by
      refine ti_inj ?_
      rw [ti_add (by rw [ti_of (by omega), l2]; omega) (by rw [ti_of (by omega), l2]; omega), ti_of (by omega), ti_of (by omega), l2]
      omega
    have fL := hf0.1 i (by omega)
    have ev : σ 6 (f i) = P.2.2 2 (f i) := (hf 6 _ (by omega)).trans (hD.2.2.2.2.2.2.1 (f i) fL).2.2
    rw [if_neg (by rw [Int32.le_iff_toInt_le, ti_of (by omega), l0]; omega), em, em2]
    refine ⟨by rw [ti_of (by omega)]; omega, ?_⟩
    rw [tc_of (show i < 2147483648 by omega), g1 i (by omega)]
    refine s_18v (by omega) ?_
    rw [ev]
    by_cases c : w ≤ P.2.2 2 (f i)
    · rw [if_pos c]
      rw [Int32.le_iff_toInt_le] at c
      exact ⟨by rw [ti_of (by omega)]; omega, by rw [e1, ti_of (by omega)]; omega, fin (i + 1) σ hi hf g1 g2 (Or.inr c)⟩
    · rw [if_neg c]
      rw [Int32.le_iff_toInt_le] at c
      refine ⟨by rw [ti_of (by omega)]; omega, ih _ (by omega) (fun k j hk => ?_) (fun j hj => ?_) (fun j h1 h2 => ?_)⟩
      · rw [s2_ne _ _ (fun z => hk z.1)]
        exact hf k j hk
      · rw [tc_of (by omega), s2_ne _ _ (by omega)]
        exact g1 j (by omega)
      · rw [tc_of (by omega)]
        by_cases e : j = i
        · rw [e, s2_self, g1 i (by omega)]
          exact ⟨rfl, by omega⟩
        · rw [s2_ne _ _ (by omega)]
          exact g2 j (by omega) h2
theorem s_14 {σ : St} {P : PS} {a b t w : Int32} {K : St → Prop} (hD : DR σ P) (hl : P.1 1 < 12) (hK : ∀ σ', (∀ k j, (k < 3 ∨ 7 < k) → σ' k j = σ k j) → DR σ' (pL P a b t w) → K σ') : CV 14 [.ref 3, .int a, .int b, .int t, .int w] σ K := by
  refine w_14 ?_
  have l1 : (12 : Int32).toInt = 12 := rfl
  obtain ⟨f, hf, hq⟩ := hD.2.2.2.2.2.2.2.2.2
  rw [hD.2.2.1, if_pos (by rw [Int32.lt_iff_toInt_lt, ti_of (by omega), l1]; omega)]
  exact s_14l hD hl hf hK (P.1 1) σ (Nat.le_refl _) (fun _ _ _ => rfl) hq (fun j h1 h2 => by omega)
/-- addMap -/
theorem s_15 {σ : St} {P : PS} {a b : Int32} {K : St → Prop} (hD : DR σ P) (hl : P.1 2 < 5) (hK : ∀ σ', (∀ k j, (k < 3 ∨ 10 < k) → σ' k j = σ k j) → DR σ' (pM P a b) → K σ') : CV 15 [.ref 3, .int a, .int b] σ K := by
  refine w_15 ?_
  have l1 : (5 : Int32).toInt = 5 := rfl
  rw [hD.2.2.2.1, if_pos (by rw [Int32.lt_iff_toInt_lt, ti_of (by omega), l1]; omega)]
  refine ⟨by rw [ti_of (by omega)]; omega, ?_⟩
  rw [tc_of (by omega), of_s]
  refine hK _ (fun k j hk => ?_) ?_
  · rw [s2_ne _ _ (by omega), s2_ne _ _ (by omega), s2_ne _ _ (by omega)]
  · obtain ⟨h0, h1, h2, h3, h4, h5, h6, h7, h8, h9⟩ := hD
    refine ⟨⟨h0.1, h0.2.1, hl, h0.2.2.2⟩, h1, h2, rfl, h4, h5, h6, fun j hj => ?_, h8, h9⟩
    show (if j = P.1 2 then a else σ 8 j) = (if j = P.1 2 then a else P.2.2 3 j) ∧ (if j = P.1 2 then b else σ 9 j) = (if j = P.1 2 then b else P.2.2 4 j)
    by_cases c : j = P.1 2
    · simp only [if_pos c, true_and]
    · simp only [if_neg c]
      exact h7 j (by have : j < P.1 2 + 1 := hj; omega)
/-- addInspector -/
theorem s_16 {σ : St} {P : PS} {a : Int32} {K : St → Prop} (hD : DR σ P) (hl : P.1 3 < 4) (hK : ∀ σ', (∀ k j, (k < 3 ∨ 10 < k) → σ' k j = σ k j) → DR σ' (pJ P a) → K σ') : CV 16 [.ref 3, .int a] σ K := by
  refine w_16 ?_
  have l1 : (4 : Int32).toInt = 4 := rfl
  rw [hD.2.2.2.2.1, if_pos (by rw [Int32.lt_iff_toInt_lt, ti_of (by omega), l1]; omega)]
  refine ⟨by rw [ti_of (by omega)]; omega, ?_⟩
  rw [tc_of (by omega), of_s]
  refine hK _ (fun k j hk => ?_) ?_
  · rw [s2_ne _ _ (by omega), s2_ne _ _ (by omega)]
  · obtain ⟨h0, h1, h2, h3, h4, h5, h6, h7, h8, h9⟩ := hD
    refine ⟨⟨h0.1, h0.2.1, h0.2.2.1, hl⟩, h1, h2, h3, rfl, h5, h6, h7, fun j hj => ?_, h9⟩
    show (if j = P.1 3 then a else σ 10 j) = (if j = P.1 3 then a else P.2.2 5 j)
    by_cases c : j = P.1 3
    · simp only [if_pos c]
    · simp only [if_neg c]
      exact h8 j (by have : j < P.1 3 + 1 := hj; omega)
theorem RX.z {σ : St} {T : Nat → Int32} {q na : Nat} {fa : Int32} (h : RX σ T (q, na, 0, fa)) : σ 1 3 = 0 := h.2.2.1
/-- after a clause -/
def AO (σ : St) (T : Nat → Int32) (fa : Int32) (o : Out) : Prop := (o.1 = 0 ∧ ∃ na, RX σ T (o.2.1, na, 0, fa) ∧ DR σ o.2.2) ∨ FM σ T o.1 o.2.1
theorem v_nat {v a b : Int32} (h : a ≤ v ∧ v ≤ b) (ha : 0 ≤ a.toInt) : Int32.ofNat v.toInt.toNat = v ∧ v.toInt.toNat ≤ b.toInt.toNat ∧ a.toInt.toNat ≤ v.toInt.toNat := by
  have h1 := Int32.le_iff_toInt_le.mp h.1
  have h2 := Int32.le_iff_toInt_le.mp h.2
  have := ti_r v
  exact ⟨ti_inj (by rw [ti_of (by omega)]; omega), by omega, by omega⟩
/-- readPlaces -/
theorem s_26 {σ : St} {T : Nat → Int32} {q na : Nat} {fa : Int32} {P : PS} {K : St → Prop} (hR : RX σ T (q, na, 0, fa)) (hD : DR σ P) (hK : ∀ σ', FrD σ σ' → AO σ' T fa (cN T P q) → K σ') : CV 26 [.ref 1, .ref 3] σ K := by
  unfold cN at hK
  refine w_26 (N_num hR (fun c σ1 f1 h1 => N_ec h1 (fun c2 σ2 f2 h2 => ?_) (fun c2 σ2 f2 h2 => ?_)) (fun c v σ1 f1 h1 => h1.ec fun σ2 f2 h2 => ?_))
  · rw [if_pos h2.z]
    unfold ec at hK
    rw [if_pos c, if_pos c2] at hK
    have D2 := hD.fr (f1.tr f2)
    have hv := v_nat (nm_v c) (by decide)
    refine hK _ ((f1.tr f2).d.tr (FrD.of fun k j hk => s2_ne _ _ (by omega))) (Or.inl ⟨rfl, _, h2.fr (fun _ => rfl) (fun _ => rfl), ?_⟩)
    obtain ⟨g0, g1, g2, g3, g4, g5, g6, g7, g8⟩ := D2
    exact ⟨⟨hv.2.1, g0.2⟩, hv.1.symm, g2, g3, g4, g5, g6, g7, g8⟩
  · rw [if_neg h2.ne]
    unfold ec at hK
    rw [if_pos c, if_neg c2] at hK
    exact hK _ (f1.tr f2).d (Or.inr h2)
  · rw [if_neg h2.ne]
    rw [if_neg c] at hK
    exact hK _ (f1.tr f2).d (Or.inr h2)
/-- readInspector -/
theorem s_29 {σ : St} {T : Nat → Int32} {q na : Nat} {fa : Int32} {P : PS} {K : St → Prop} (hR : RX σ T (q, na, 0, fa)) (hD : DR σ P) (hl : P.1 3 < 4) (hK : ∀ σ', FrD σ σ' → AO σ' T fa (cJ T P q) → K σ') : CV 29 [.ref 1, .ref 3] σ K := by
  unfold cJ at hK
  refine w_29 (N_num hR (fun c σ1 f1 h1 => N_ec h1 (fun c2 σ2 f2 h2 => ?_) (fun c2 σ2 f2 h2 => ?_)) (fun c v σ1 f1 h1 => h1.ec fun σ2 f2 h2 => ?_))
  · rw [if_pos h2.z]
    unfold ec at hK
    rw [if_pos c, if_pos c2] at hK
    exact s_16 (hD.fr (f1.tr f2)) hl fun σ3 f3 h3 => hK _ ((f1.tr f2).d.tr (FrD.of f3)) (Or.inl ⟨rfl, _, h2.fr (fun j => f3 1 j (by omega)) (fun j => f3 2 j (by omega)), h3⟩)
  · rw [if_neg h2.ne]
    unfold ec at hK
    rw [if_pos c, if_neg c2] at hK
    exact hK _ (f1.tr f2).d (Or.inr h2)
  · rw [if_neg h2.ne]
    rw [if_neg c] at hK
    exact hK _ (f1.tr f2).d (Or.inr h2)
/-- readLine -/
theorem s_27f {σ : St} {T : Nat → Int32} {f p : Nat} {a b : Int32} {K : St → Prop} (h : FM σ T f p) (hK : ∀ σ', Fr1 σ σ' → FM σ' T f p → K σ') : PV 27 54 [some (.ref 1), some (.ref 3), some (.int a), some (.int b), none, none] [] σ K := by
  refine w_27_54 (h.num fun v1 σ1 f1 h1 => h1.num fun v2 σ2 f2 h2 => h2.ec fun σ3 f3 h3 => ?_)
  rw [if_neg h3.ne]
  exact hK _ ((f1.tr f2).tr f3) h3
theorem s_27n {σ : St} {T : Nat → Int32} {q na : Nat} {fa a b : Int32} {P : PS} {K : St → Prop} (hR : RX σ T (q, na, 0, fa)) (hD : DR σ P) (hl : P.1 1 < 12) (hK : ∀ σ', FrD σ σ' → AO σ' T fa (cL3 T P a b q) → K σ') : PV 27 54 [some (.ref 1), some (.ref 3), some (.int a), some (.int b), none, none] [] σ K := by
  unfold cL3 at hK
  refine w_27_54 (N_num hR (fun c σ1 f1 h1 => N_num h1 (fun c2 σ2 f2 h2 => N_ec h2 (fun c3 σ3 f3 h3 => ?_) (fun c3 σ3 f3 h3 => ?_)) (fun c2 v2 σ2 f2 h2 => h2.ec fun σ3 f3 h3 => ?_)) (fun c v1 σ1 f1 h1 => h1.num fun v2 σ2 f2 h2 => h2.ec fun σ3 f3 h3 => ?_))
  · rw [if_pos h3.z]
    unfold cL4 ec at hK
    rw [if_pos c, if_pos c2, if_pos c3] at hK
    exact s_14 (hD.fr ((f1.tr f2).tr f3)) hl fun σ4 f4 h4 => hK _ (((f1.tr f2).tr f3).d.tr (FrD.of fun k j hk => f4 k j (by omega))) (Or.inl ⟨rfl, _, h3.fr (fun j => f4 1 j (by omega)) (fun j => f4 2 j (by omega)), h4⟩)
  · rw [if_neg h3.ne]
    unfold cL4 ec at hK
    rw [if_pos c, if_pos c2, if_neg c3] at hK
    exact hK _ ((f1.tr f2).tr f3).d (Or.inr h3)
  · rw [if_neg h3.ne]
    unfold cL4 at hK
    rw [if_pos c, if_neg c2] at hK
    exact hK _ ((f1.tr f2).tr f3).d (Or.inr h3)
  · rw [if_neg h3.ne]
    rw [if_neg c] at hK
    exact hK _ ((f1.tr f2).tr f3).d (Or.inr h3)
theorem s_27 {σ : St} {T : Nat → Int32} {q na : Nat} {fa : Int32} {P : PS} {K : St → Prop} (hR : RX σ T (q, na, 0, fa)) (hD : DR σ P) (hl : P.1 1 < 12) (hK : ∀ σ', FrD σ σ' → AO σ' T fa (cL T P q) → K σ') : CV 27 [.ref 1, .ref 3] σ K := by
  unfold cL at hK
  refine w_27 ?_
  rw [hD.2.1]
  refine N_num hR (fun c σ1 f1 h1 => ?_) (fun c v1 σ1 f1 h1 => ?_)
  · have D1 := hD.fr f1
    rw [D1.2.1]
    rw [if_pos c] at hK
    unfold cL2 at hK
    refine N_num h1 (fun c2 σ2 f2 h2 => ?_) (fun c2 v2 σ2 f2 h2 => ?_)
    · have D2 := D1.fr f2
      rw [if_pos h2.z]
      rw [if_pos c2] at hK
      by_cases c3 : (nm T 0 (Int32.ofNat (P.1 0) - 1) q).2.2.1 = (nm T 0 (Int32.ofNat (P.1 0) - 1) (nm T 0 (Int32.ofNat (P.1 0) - 1) q).2.2.2).2.2.1
      · rw [if_pos c3, h2.2.1]
        rw [if_pos (Or.inl c3)] at hK
        refine s_36 (f := 4) h2 (by omega) fun σ3 f3 h3 => ?_
        unfold sp at h3
        rw [if_pos rfl] at h3
        exact s_27f (f := 4) ⟨by decide, _, _, h3⟩ fun σ4 f4 h4 => hK _ (((f1.tr f2).tr f3).tr f4).d (Or.inr h4)
      · rw [if_neg c3]
        refine s_17 D2 ?_
        cases c4 : jn P.2.2 (nm T 0 (Int32.ofNat (P.1 0) - 1) q).2.2.1 (nm T 0 (Int32.ofNat (P.1 0) - 1) (nm T 0 (Int32.ofNat (P.1 0) - 1) q).2.2.2).2.2.1 (P.1 1) with
        | false =>
          rw [cond_false, if_pos rfl]
          rw [if_neg (fun z => z.elim c3 (fun z => by rw [c4] at z; cases z))] at hK
          exact s_27n h2 D2 hl fun σ3 f3 h3 => hK _ ((f1.tr f2).d.tr f3) h3
        | true =>
          rw [cond_true, if_neg (by decide), h2.2.1]
          rw [if_pos (Or.inr c4)] at hK
          refine s_36 (f := 4) h2 (by omega) fun σ3 f3 h3 => ?_
          unfold sp at h3
          rw [if_pos rfl] at h3
          exact s_27f (f := 4) ⟨by decide, _, _, h3⟩ fun σ4 f4 h4 => hK _ (((f1.tr f2).tr f3).tr f4).d (Or.inr h4)
    · rw [if_neg h2.ne]
      rw [if_neg c2] at hK
      exact s_27f h2 fun σ3 f3 h3 => hK _ ((f1.tr f2).tr f3).d (Or.inr h3)
  · rw [if_neg c] at hK
    refine h1.num fun v2 σ2 f2 h2 => ?_
    rw [if_neg h2.ne]
    exact s_27f h2 fun σ3 f3 h3 => hK _ ((f1.tr f2).tr f3).d (Or.inr h3)
theorem bad_T {P : PS} {s : Int32} (c : ¬ s &&& (((1 <<< (Int32.ofNat (P.1 1) &&& 31)) - 1) ^^^ (-1)) = 0) : bad P s = true := decide_eq_true c
theorem bad_F {P : PS} {s : Int32} (c : s &&& (((1 <<< (Int32.ofNat (P.1 1) &&& 31)) - 1) ^^^ (-1)) = 0) : ¬ bad P s = true := fun z => of_decide_eq_true (p := ¬ s &&& (((1 <<< (Int32.ofNat (P.1 1) &&& 31)) - 1) ^^^ (-1)) = 0) z c
/-- readMap -/
theorem s_94 {a : Int32} {σ : St} {K : Int32 → St → Prop} (h : K ((1 <<< (a &&& 31)) - 1) σ) : CI 94 [.int a] σ K := w_94 h
theorem s_28 {σ : St} {T : Nat → Int32} {q na : Nat} {fa : Int32} {P : PS} {K : St → Prop} (hR : RX σ T (q, na, 0, fa)) (hD : DR σ P) (hl : P.1 2 < 5) (hK : ∀ σ', FrD σ σ' → AO σ' T fa (cM T P q) → K σ') : CV 28 [.ref 1, .ref 3] σ K := by
  unfold cM at hK
  refine w_28 (N_num hR (fun c σ1 f1 h1 => ?_) (fun c v1 σ1 f1 h1 => ?_))
  · rw [if_pos c] at hK
    unfold cM2 at hK
    refine N_num h1 (fun c2 σ2 f2 h2 => ?_) (fun c2 v2 σ2 f2 h2 => ?_)
    · rw [if_pos c2] at hK
      refine s_94 ?_
      rw [(hD.fr (f1.tr f2)).2.2.1]
      refine N_fb h2 (fun c3 σ3 f3 h3 => ?_) (fun c3 σ3 f3 h3 => ?_)
      · rw [if_neg (bad_F c3)] at hK
        unfold cM3 at hK
        refine N_num h3 (fun c4 σ4 f4 h4 => ?_) (fun c4 v4 σ4 f4 h4 => ?_)
        · rw [if_pos c4] at hK
          refine s_94 ?_
          have f14 := ((f1.tr f2).tr f3).tr f4
          rw [(hD.fr f14).2.2.1]
          refine N_fb h4 (fun c5 σ5 f5 h5 => N_ec h5 (fun c6 σ6 f6 h6 => ?_) (fun c6 σ6 f6 h6 => ?_)) (fun c5 σ5 f5 h5 => h5.ec fun σ6 f6 h6 => ?_)
          · rw [if_pos h6.z]
            unfold ec at hK
            rw [if_neg (bad_F c5), if_pos c6] at hK
            have f16 := (f14.tr f5).tr f6
            exact s_15 (hD.fr f16) hl fun σ7 f7 h7 => hK _ (f16.d.tr (FrD.of f7)) (Or.inl ⟨rfl, _, h6.fr (fun j => f7 1 j (by omega)) (fun j => f7 2 j (by omega)), h7⟩)
          · rw [if_neg h6.ne]
            unfold ec at hK
            rw [if_neg (bad_F c5), if_neg c6] at hK
            exact hK _ ((f14.tr f5).tr f6).d (Or.inr h6)
          · rw [if_neg h6.ne]
            rw [if_pos (bad_T c5)] at hK
            exact hK _ ((f14.tr f5).tr f6).d (Or.inr h6)
        · rw [if_neg c4] at hK
          refine s_94 (h4.fb fun σ5 f5 h5 => h5.ec fun σ6 f6 h6 => ?_)
          rw [if_neg h6.ne]
          exact hK _ (((((f1.tr f2).tr f3).tr f4).tr f5).tr f6).d (Or.inr h6)
      · rw [if_pos (bad_T c3)] at hK
        refine h3.num fun v4 σ4 f4 h4 => s_94 (h4.fb fun σ5 f5 h5 => h5.ec fun σ6 f6 h6 => ?_)
        rw [if_neg h6.ne]
        exact hK _ (((((f1.tr f2).tr f3).tr f4).tr f5).tr f6).d (Or.inr h6)
    · rw [if_neg c2] at hK
      refine s_94 (h2.fb fun σ3 f3 h3 => h3.num fun v4 σ4 f4 h4 => s_94 (h4.fb fun σ5 f5 h5 => h5.ec fun σ6 f6 h6 => ?_))
      rw [if_neg h6.ne]
      exact hK _ (((((f1.tr f2).tr f3).tr f4).tr f5).tr f6).d (Or.inr h6)
  · rw [if_neg c] at hK
    refine h1.num fun v2 σ2 f2 h2 => s_94 (h2.fb fun σ3 f3 h3 => h3.num fun v4 σ4 f4 h4 => s_94 (h4.fb fun σ5 f5 h5 => h5.ec fun σ6 f6 h6 => ?_))
    rw [if_neg h6.ne]
    exact hK _ (((((f1.tr f2).tr f3).tr f4).tr f5).tr f6).d (Or.inr h6)
/-- wordFault -/
theorem of_z {n : Nat} (h : n < 2147483648) : Int32.ofNat n = 0 ↔ n = 0 := ⟨fun z => of_inj (m := 0) h (by omega) z, fun z => by rw [z]; rfl⟩
theorem s_25 {σ : St} {P : PS} {c : Int32} {K : Int32 → St → Prop} (hD : DR σ P) (hK : K (Int32.ofNat (wf P c)) σ) : CI 25 [.ref 3, .int c] σ K := by
  refine w_25 ?_
  obtain ⟨h0, h1, h2, h3, h4, -⟩ := hD
  have b0 := h0.1
  have b1 := h0.2.1
  have b2 := h0.2.2.1
  have b3 := h0.2.2.2
  have l0 : (0 : Int32).toInt = 0 := rfl
  have l4 : (4 : Int32).toInt = 4 := rfl
  have l5 : (5 : Int32).toInt = 5 := rfl
  have l12 : (12 : Int32).toInt = 12 := rfl
  rw [h1, h2, h3, h4]
  simp only [Int32.lt_iff_toInt_lt, Int32.le_iff_toInt_le, ti_of (show P.1 0 < 2147483648 by omega), ti_of (show P.1 1 < 2147483648 by omega), ti_of (show P.1 2 < 2147483648 by omega), ti_of (show P.1 3 < 2147483648 by omega), of_z (show P.1 0 < 2147483648 by omega), l0, l4, l5, l12]
  unfold wf at hK
  by_cases d0 : c = 105
  · rw [if_pos d0] at hK ⊢
    by_cases e0 : P.1 0 = 0
    · rw [if_pos e0] at hK ⊢; exact hK
    · rw [if_neg e0] at hK ⊢
      by_cases e1 : P.1 3 < 4
      · rw [if_pos e1] at hK; rw [if_pos (by omega)]; exact hK
      · rw [if_neg e1] at hK; rw [if_neg (by omega)]; exact hK
  · rw [if_neg d0] at hK ⊢
    by_cases d1 : c = 108
    · rw [if_pos d1] at hK ⊢
      by_cases e0 : P.1 0 = 0
      · rw [if_pos e0] at hK ⊢; exact hK
      · rw [if_neg e0] at hK ⊢
        by_cases e1 : P.1 2 = 0
        · rw [if_pos e1] at hK; rw [if_pos (by omega)]
          by_cases e2 : P.1 1 < 12
          · rw [if_pos e2] at hK; rw [if_pos (by omega)]; exact hK
          · rw [if_neg e2] at hK; rw [if_neg (by omega)]; exact hK
        · rw [if_neg e1] at hK; rw [if_neg (by omega)]; exact hK
    · rw [if_neg d1] at hK ⊢
      by_cases d2 : c = 109
      · rw [if_pos d2] at hK ⊢
        by_cases e0 : P.1 0 = 0
        · rw [if_pos e0] at hK ⊢; exact hK
        · rw [if_neg e0] at hK ⊢
          by_cases e1 : P.1 2 < 5
          · rw [if_pos e1] at hK; rw [if_pos (by omega)]; exact hK
          · rw [if_neg e1] at hK; rw [if_neg (by omega)]; exact hK
      · rw [if_neg d2] at hK ⊢
        by_cases d3 : c = 110
        · rw [if_pos d3] at hK ⊢
          by_cases e0 : P.1 0 = 0
          · rw [if_pos e0] at hK; rw [if_pos (by omega)]; exact hK
          · rw [if_neg e0] at hK; rw [if_neg (by omega)]; exact hK
        · rw [if_neg d3] at hK ⊢; exact hK
theorem wf_le {P : PS} {c : Int32} : wf P c ≤ 4 := by
  unfold wf
  repeat' split
  all_goals omega
theorem wf_0 {P : PS} {c : Int32} (h : wf P c = 0) : (c = 108 → P.1 1 < 12) ∧ (c = 109 → P.1 2 < 5) ∧ (¬ c = 108 → ¬ c = 109 → ¬ c = 110 → c = 105 ∧ P.1 3 < 4) := by
  unfold wf at h
  refine ⟨fun e => ?_, fun e => ?_, fun e1 e2 e3 => ?_⟩
  · rw [if_neg (by rw [e]; decide), if_pos e] at h
    repeat' split at h
    all_goals omega
  · rw [if_neg (by rw [e]; decide), if_neg (by rw [e]; decide), if_pos e] at h
    repeat' split at h
    all_goals omega
  · rw [if_neg e1, if_neg e2, if_neg e3] at h
    by_cases c0 : c = 105
    · rw [if_pos c0] at h
      refine ⟨c0, ?_⟩
      repeat' split at h
      all_goals omega
    · rw [if_neg c0] at h
      cases h
/-- readClause -/
theorem s_24 {σ : St} {T : Nat → Int32} {q na : Nat} {fa : Int32} {P : PS} {K : St → Prop} (hR : RX σ T (q, na, 0, fa)) (hD : DR σ P) (hq : ¬ T q = -1) (hK : ∀ σ', FrD σ σ' → AO σ' T fa (cl T P q) → K σ') : CV 24 [.ref 1, .ref 3] σ K := by
  refine w_24 (s_34 hR (s_25 hD ?_))
  dsimp only
  have q240 : q < 240 := Classical.not_not.mp fun z => hq (hR.ht q (by omega))
  have hw := wf_le (P := P) (c := T q)
  unfold cl at hK
  by_cases c : wf P (T q) = 0
  · rw [c, if_pos (show Int32.ofNat 0 = 0 from rfl)]
    rw [if_pos c] at hK
    have R1 : RX (s2 σ 1 4 (σ 1 4 + 1)) T (q + 1, na, 0, fa) := hR.inc q240
    have D1 : DR (s2 σ 1 4 (σ 1 4 + 1)) P := hD.fr (Fr1.u (by omega) (by omega))
    have F1 : FrD σ (s2 σ 1 4 (σ 1 4 + 1)) := (Fr1.u (by omega) (by omega)).d
    obtain ⟨w1, w2, w3⟩ := wf_0 c
    by_cases d1 : T q = 108
    · rw [if_pos d1] at hK ⊢
      exact s_27 R1 D1 (w1 d1) fun σ' f h => hK σ' (F1.tr f) h
    · rw [if_neg d1] at hK ⊢
      by_cases d2 : T q = 109
      · rw [if_pos d2] at hK ⊢
        exact s_28 R1 D1 (w2 d2) fun σ' f h => hK σ' (F1.tr f) h
      · rw [if_neg d2] at hK ⊢
        by_cases d3 : T q = 110
        · rw [if_pos d3] at hK ⊢
          exact s_26 R1 D1 fun σ' f h => hK σ' (F1.tr f) h
        · rw [if_neg d3] at hK ⊢
          exact s_29 R1 D1 (w3 d1 d2 d3).2 fun σ' f h => hK σ' (F1.tr f) h
  · rw [if_neg c] at hK
    rw [if_neg (fun z => c ((of_z (by omega)).mp z)), hR.1]
    refine s_36 hR hw fun σ' f h => hK σ' f.d (Or.inr ⟨c, q, na, ?_⟩)
    unfold sp at h
    rw [if_pos rfl] at h
    exact h
/-! positions -/
theorem nm_ge (T : Nat → Int32) (a b : Int32) (q : Nat) : q ≤ (nm T a b q).2.2.2 := by
  have h3 := sk_ge T q
  have h4 := de_ge T (sk T q)
  unfold nm
  cases dg (T (sk T q)) with
  | true => rw [cond_true]; dsimp only; omega
  | false => rw [cond_false]; exact h3
theorem ec_pos {T : Nat → Int32} {q : Nat} {P : PS} (h : (ec T q P).1 = 0) : q < (ec T q P).2.1 := by
  have := sk_ge T q
  unfold ec at h ⊢
  split at h
  · rw [if_pos (by assumption)]; dsimp only; omega
  · cases h
theorem cl_pos {T : Nat → Int32} {q : Nat} {P : PS} (h : (cl T P q).1 = 0) : q < (cl T P q).2.1 := by
  unfold cl at h ⊢
  split at h
  · rename_i c
    rw [if_pos c]
    split at h
    · rename_i c1
      rw [if_pos c1]
      unfold cL cL2 cL3 cL4 at h ⊢
      split at h
      · rename_i d1
        rw [if_pos d1]
        split at h
        · rename_i d2
          rw [if_pos d2]
          split at h
          · cases h
          · rename_i d3
            rw [if_neg d3]
            split at h
            · rename_i d4
              rw [if_pos d4]
              split at h
              · rename_i d5
                rw [if_pos d5]
                have := ec_pos h
                have g1 := nm_ge T 0 (Int32.ofNat (P.1 0) - 1) (q + 1)
                have g2 := nm_ge T 0 (Int32.ofNat (P.1 0) - 1) (nm T 0 (Int32.ofNat (P.1 0) - 1) (q + 1)).2.2.2
                have g3 := nm_ge T 0 1 (nm T 0 (Int32.ofNat (P.1 0) - 1) (nm T 0 (Int32.ofNat (P.1 0) - 1) (q + 1)).2.2.2).2.2.2
                have g4 := nm_ge T 0 50 (nm T 0 1 (nm T 0 (Int32.ofNat (P.1 0) - 1) (nm T 0 (Int32.ofNat (P.1 0) - 1) (q + 1)).2.2.2).2.2.2).2.2.2
                omega
              · exact absurd h (by assumption)
            · exact absurd h (by assumption)
        · exact absurd h (by assumption)
      · exact absurd h (by assumption)
    · rename_i c1
      rw [if_neg c1]
      split at h
      · rename_i c2
        rw [if_pos c2]
        unfold cM cM2 cM3 at h ⊢
        split at h
        · rename_i d1
          rw [if_pos d1]
          split at h
          · rename_i d2
            rw [if_pos d2]
            split at h
            · cases h
            · rename_i d3
              rw [if_neg d3]
              split at h
              · rename_i d4
                rw [if_pos d4]
                split at h
                · cases h
                · rename_i d5
                  rw [if_neg d5]
                  have := ec_pos h
                  have g1 := nm_ge T 0 4 (q + 1)
                  have g2 := nm_ge T 0 63 (nm T 0 4 (q + 1)).2.2.2
                  have g3 := nm_ge T 0 63 (nm T 0 63 (nm T 0 4 (q + 1)).2.2.2).2.2.2
                  omega
              · exact absurd h (by assumption)
          · exact absurd h (by assumption)
        · exact absurd h (by assumption)
      · rename_i c2
        rw [if_neg c2]
        split at h
        · rename_i c3
          rw [if_pos c3]
          unfold cN at h ⊢
          split at h
          · rename_i d1
            rw [if_pos d1]
            have := ec_pos h
            have g1 := nm_ge T 2 8 (q + 1)
            omega
          · exact absurd h (by assumption)
        · rename_i c3
          rw [if_neg c3]
          unfold cJ at h ⊢
          split at h
          · rename_i d1
            rw [if_pos d1]
            have := ec_pos h
            have g1 := nm_ge T 1 12 (q + 1)
            omega
          · exact absurd h (by assumption)
  · exact absurd h (by assumption)
theorem su_sk {T : Nat → Int32} (h : HT T) {d : Nat} {P : PS} {q : Nat} : su T (d + 1) P (sk T q) = su T (d + 1) P q := by
  unfold su
  rw [sk_sk h]
/-- readInto's loop -/
theorem s_23l {T : Nat → Int32} {fa : Int32} {K : Int32 → St → Prop} : ∀ (d : Nat) {σ : St} {q na c : Nat} {P : PS}, c + d = 241 → c ≤ q → sk T q = q → RX σ T (q, na, 0, fa) → DR σ P → (∀ σ', FrD σ σ' → AO σ' T fa (su T d P q) → K (σ' 1 3) (s2 σ' 1 1 0)) → PI 23 25 [some (.ref 1), some (.ref 3), some (.int (Int32.ofNat c))] [] σ K := by
  intro d
  induction d with
  | zero => intro σ q na c P hc hq hs hR hD hK; have := hR.2.2.2.2.1; dsimp only at this; omega
  | succ d ih =>
    intro σ q na c P hc hq hs hR hD hK
    have q240 : q ≤ 240 := hR.2.2.2.2.1
    have l240 : (240 : Int32).toInt = 240 := rfl
    unfold su at hK
    rw [hs] at hK
    have fin : T q = -1 → K (σ 1 3) (s2 σ 1 1 0) := fun e => by
      rw [if_pos e] at hK
      exact hK σ Fr1.rf.d (Or.inl ⟨rfl, na, hR, hD⟩)
    refine w_23_25 ?_
    rcases hR.end with ⟨c1, c2⟩ | ⟨c1, c2, c3⟩
    · dsimp only at c2
      split
      · exact fin c2
      · first
        | exact fin c2
        | (rw [if_pos c1]; exact fin c2)
    · dsimp only at c2 c3
      rw [if_neg (by rw [Int32.le_iff_toInt_le, l240, ti_of (by omega)]; omega), if_neg c1, if_pos hR.z]
      rw [if_neg c3] at hK
      refine s_24 hR hD c3 fun σ1 f1 h1 => ?_
      rw [of_s]
      rcases h1 with ⟨e1, na1, R1, D1⟩ | h1
      · rw [if_pos e1] at hK
        have hp := cl_pos e1
        refine s_33c R1 fun σ2 f2 R2 => ?_
        dsimp only at R2
        have hsk := sk_ge T (cl T P q).2.1
        refine ih (by omega) (by omega) (sk_sk R2.ht) R2 (D1.fr f2) fun σ3 f3 h3 => hK σ3 ((f1.tr f2.d).tr f3) ?_
        obtain ⟨d', hd'⟩ : ∃ d', d = d' + 1 := ⟨d - 1, by omega⟩
        rw [hd', su_sk R2.ht, ← hd'] at h3
        exact h3
      · rw [if_neg h1.1] at hK
        obtain ⟨e1, q2, na2, R2⟩ := h1
        refine s_33c R2 fun σ2 f2 R3 => ?_
        dsimp only at R3
        have h3 : FM σ2 T (cl T P q).1 (cl T P q).2.1 := ⟨e1, _, _, R3⟩
        refine w_23_25 ?_
        have k3 := hK σ2 (f1.tr f2.d) (Or.inr h3)
        split
        · exact k3
        · split
          · exact k3
          · rw [if_neg h3.ne]; exact k3
