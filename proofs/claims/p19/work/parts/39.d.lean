/-! the reference's reader -/
def MX (σ : St) (T : Nat → Int32) (q : Nat) : Prop := σ 39 16 = Int32.ofNat q ∧ q ≤ 240 ∧ ∃ n : Nat, n ≤ 240 ∧ (∀ i, i < n → 0 ≤ (σ 47 i).toInt) ∧ σ 39 14 = Int32.ofNat n ∧ T = fun i => if i < n then σ 47 i else -1
def F16 (σ σ' : St) : Prop := ∀ k j : Nat, ¬ (k = 39 ∧ j = 16) → σ' k j = σ k j
def FrN (σ σ' : St) : Prop := ∀ k j : Nat, (k = 39 → j < 15 ∨ 18 < j) → σ' k j = σ k j
theorem F16.rf {σ : St} : F16 σ σ := fun _ _ _ => rfl
theorem F16.tr {σ σ1 σ2 : St} (h : F16 σ σ1) (h' : F16 σ1 σ2) : F16 σ σ2 := fun k j hk => (h' k j hk).trans (h k j hk)
theorem F16.u {σ : St} {v : Int32} : F16 σ (s2 σ 39 16 v) := fun k i hk => s2_ne _ _ hk
theorem F16.n {σ σ' : St} (h : F16 σ σ') : FrN σ σ' := fun k j hk => h k j (fun z => by have := hk z.1; omega)
theorem FrN.rf {σ : St} : FrN σ σ := fun _ _ _ => rfl
theorem FrN.tr {σ σ1 σ2 : St} (h : FrN σ σ1) (h' : FrN σ1 σ2) : FrN σ σ2 := fun k j hk => (h' k j hk).trans (h k j hk)
theorem FrN.u {σ : St} {j : Nat} {v : Int32} (h1 : 15 ≤ j) (h2 : j ≤ 18) : FrN σ (s2 σ 39 j v) := fun k i hk => s2_ne _ _ (fun z => by have := hk z.1; omega)
theorem MX.ht {σ : St} {T : Nat → Int32} {q : Nat} (h : MX σ T q) : HT T := by
  obtain ⟨-, -, n, hn, -, -, rfl⟩ := h
  intro i hi
  show (if i < n then σ 47 i else -1) = -1
  rw [if_neg (by omega)]
theorem MX.fr {σ σ' : St} {T : Nat → Int32} {q q' : Nat} (h : MX σ T q) (hq : q' ≤ 240) (h1 : σ' 39 16 = Int32.ofNat q') (h2 : σ' 39 14 = σ 39 14) (h3 : ∀ j, σ' 47 j = σ 47 j) : MX σ' T q' := by
  obtain ⟨a1, a2, n, a3, a4, a5, a6⟩ := h
  refine ⟨h1, hq, n, a3, fun i hi => by rw [h3]; exact a4 i hi, by rw [h2]; exact a5, ?_⟩
  rw [a6]
  funext i
  rw [h3]
theorem MX.inc {σ : St} {T : Nat → Int32} {q : Nat} (h : MX σ T q) (hq : q < 240) : MX (s2 σ 39 16 (σ 39 16 + 1)) T (q + 1) := h.fr hq (by rw [h.1, of_s]; rfl) rfl (fun _ => rfl)
theorem MX.end {σ : St} {T : Nat → Int32} {q : Nat} (h : MX σ T q) : (σ 39 14 ≤ σ 39 16 ∧ T q = -1) ∨ (¬ σ 39 14 ≤ σ 39 16 ∧ q < 240 ∧ 0 ≤ (T q).toInt ∧ σ 47 q = T q) := by
  obtain ⟨h4, hq, n, hn, hl, h1, rfl⟩ := h
  have e0 : (Int32.ofNat q).toInt = q := ti_of (by omega)
  have e1 : (Int32.ofNat n).toInt = n := ti_of (by omega)
  rw [h1, h4, Int32.le_iff_toInt_le, e0, e1]
  by_cases c : q < n
  · exact Or.inr ⟨by omega, by omega, by dsimp only; rw [if_pos c]; exact hl _ c, by dsimp only; rw [if_pos c]⟩
  · exact Or.inl ⟨by omega, by dsimp only; rw [if_neg c]⟩
theorem MX.ix {σ : St} {T : Nat → Int32} {q : Nat} (h : MX σ T q) : (σ 39 16).toNatClampNeg = q ∧ (σ 39 16).toInt = q := by
  rw [h.1]
  have := h.2.1
  exact ⟨tc_of (by omega), ti_of (by omega)⟩
/-- here -/
theorem s_118 {T : Nat → Int32} {K : Int32 → St → Prop} : ∀ (d : Nat) {σ : St} {q : Nat}, 240 - q = d → MX σ T q → (∀ σ', F16 σ σ' → MX σ' T (sk T q) → K (T (sk T q)) σ') → PI 118 0 [some (.ref 39)] [] σ K := by
  intro d
  induction d with
  | zero =>
    intro σ q hd hR hK
    refine w_118 ?_
    rcases hR.end with ⟨c1, c2⟩ | ⟨c1, c2, -, -⟩
    · rw [if_pos c1]
      have e := sk_F hR.ht (q := q) (by rw [c2]; decide)
      have := hK σ F16.rf (by rw [e]; exact hR)
      rw [e, c2] at this
      exact this
    · omega
  | succ d ih =>
    intro σ q hd hR hK
    refine w_118 ?_
    rcases hR.end with ⟨c1, c2⟩ | ⟨c1, c2, c3, c4⟩
    · rw [if_pos c1]
      have e := sk_F hR.ht (q := q) (by rw [c2]; decide)
      have := hK σ F16.rf (by rw [e]; exact hR)
      rw [e, c2] at this
      exact this
    · rw [if_neg c1, hR.ix.1, c4]
      refine ⟨by rw [hR.ix.2]; omega, ?_⟩
      by_cases c : T q = 32
      · rw [if_pos c]
        rw [sk_T hR.ht c] at hK
        exact ih (by omega) (hR.inc c2) (fun σ' f h => hK σ' (F16.u.tr f) h)
      · rw [if_neg c]
        have e := sk_F hR.ht (q := q) c
        have := hK σ F16.rf (by rw [e]; exact hR)
        rw [e] at this
        exact this
theorem s_118c {σ : St} {T : Nat → Int32} {q : Nat} {K : Int32 → St → Prop} (h : MX σ T q) (hK : ∀ σ', F16 σ σ' → MX σ' T (sk T q) → K (T (sk T q)) σ') : CI 118 [.ref 39] σ K := s_118 _ rfl h hK
theorem le64 {x y : Int32} : x.toInt64 ≤ y.toInt64 ↔ x ≤ y := by rw [Int64.le_iff_toInt_le, Int32.toInt_toInt64, Int32.toInt_toInt64, Int32.le_iff_toInt_le]
theorem s_109 {a b c : Int32} {σ : St} {K : Int32 → St → Prop} (hK : K (if b ≤ a ∧ a ≤ c then 1 else 0) σ) : CI 109 [.long (Int32.toInt64 a), .long (Int32.toInt64 b), .long (Int32.toInt64 c)] σ K := by
  refine pw_in ⟨_, rfl, ?_⟩
  simp only [le64]
  exact hK
theorem s_109d {a : Int32} {σ : St} {K : Int32 → St → Prop} (hK : K (bif dg a then 1 else 0) σ) : CI 109 [.long (Int32.toInt64 a), .long 48, .long 57] σ K := by
  have e1 : (48 : Int64) = Int32.toInt64 48 := rfl
  have e2 : (57 : Int64) = Int32.toInt64 57 := rfl
  rw [e1, e2]
  refine s_109 ?_
  by_cases c : 48 ≤ a ∧ a ≤ 57
  · rw [if_pos c]
    have : dg a = true := decide_eq_true c
    rw [this] at hK
    exact hK
  · rw [if_neg c]
    have : dg a = false := decide_eq_false c
    rw [this] at hK
    exact hK
theorem dg_b {x : Int32} (h : dg x = true) : 48 ≤ x.toInt ∧ x.toInt ≤ 57 := by
  have h1 : 48 ≤ x ∧ x ≤ 57 := of_decide_eq_true h
  exact ⟨Int32.le_iff_toInt_le.mp h1.1, Int32.le_iff_toInt_le.mp h1.2⟩
theorem vl_b {T : Nat → Int32} {q : Nat} : ∀ k, k ≤ 3 → (∀ i, i < k → dg (T (q + i)) = true) → 0 ≤ (vl T q k).toInt ∧ (vl T q k).toInt ≤ 999 ∧ (k ≤ 2 → (vl T q k).toInt ≤ 99) ∧ (k ≤ 1 → (vl T q k).toInt ≤ 9) ∧ (k = 0 → (vl T q k).toInt = 0)
  | 0, _, _ => by
    have e : (vl T q 0).toInt = 0 := rfl
    rw [e]
    exact ⟨by omega, by omega, fun _ => by omega, fun _ => by omega, fun _ => rfl⟩
  | k + 1, hk, hd => by
    obtain ⟨h1, h2, h3, h4, h5⟩ := vl_b (T := T) (q := q) k (by omega) (fun i hi => hd i (by omega))
    have hb := dg_b (hd k (by omega))
    have l10 : (10 : Int32).toInt = 10 := rfl
    have l48 : (48 : Int32).toInt = 48 := rfl
    have e1 : (vl T q k * 10).toInt = (vl T q k).toInt * 10 := by rw [ti_mul (by rw [l10]; omega) (by rw [l10]; omega), l10]
    have e2 : (vl T q k * 10 + T (q + k)).toInt = (vl T q k).toInt * 10 + (T (q + k)).toInt := by rw [ti_add (by rw [e1]; omega) (by rw [e1]; omega), e1]
    have e3 : (vl T q (k + 1)).toInt = (vl T q k).toInt * 10 + (T (q + k)).toInt - 48 := by
      show (vl T q k * 10 + T (q + k) - 48).toInt = _
      rw [ti_sub (by rw [e2, l48]; omega) (by rw [e2, l48]; omega), e2, l48]
    rw [e3]
    have c : k = 0 ∨ k = 1 ∨ k = 2 := by omega
    refine ⟨by omega, by omega, fun _ => by omega, fun _ => by omega, fun z => by omega⟩
/-- takeNumber's end -/
theorem s_120t {σ : St} {a b x : Int32} {q1 q2 : Nat} {K : Int32 → St → Prop} (h6 : σ 39 16 = Int32.ofNat q2) (h8 : σ 39 18 = Int32.ofNat q1) (h7 : σ 39 17 = x) (h12 : q1 ≤ q2) (h240 : q2 ≤ 240) (ok : ¬ 3 < q2 - q1 → a ≤ x ∧ x ≤ b → K 0 σ) (no : 3 < q2 - q1 ∨ ¬ (a ≤ x ∧ x ≤ b) → K 2 (s2 σ 39 15 (Int32.ofNat q1))) : (if 3 < ((σ 39 16) - (σ 39 18)) then CI 119 [.ref 39, .int 2, .int (σ 39 18)] σ (fun v1 σ1 => K v1 σ1) else CI 109 [.long (Int32.toInt64 (σ 39 17)), .long (Int32.toInt64 a), .long (Int32.toInt64 b)] σ (fun v2 σ2 => (if v2 = 0 then CI 119 [.ref 39, .int 2, .int (σ2 39 18)] σ2 (fun v3 σ3 => K v3 σ3) else K 0 σ2))) := by
  have l3 : (3 : Int32).toInt = 3 := rfl
  have hs : (σ 39 16 - σ 39 18).toInt = (q2 : Int) - q1 := by
    rw [h6, h8, ti_sub (by rw [ti_of (by omega), ti_of (by omega)]; omega) (by rw [ti_of (by omega), ti_of (by omega)]; omega), ti_of (by omega), ti_of (by omega)]
  by_cases c : 3 < q2 - q1
  · rw [if_pos (by rw [Int32.lt_iff_toInt_lt, hs, l3]; omega), h8]
    exact w_119 (no (Or.inl c))
  · rw [if_neg (by rw [Int32.lt_iff_toInt_lt, hs, l3]; omega), h7]
    refine s_109 ?_
    by_cases c2 : a ≤ x ∧ x ≤ b
    · rw [if_pos c2, if_neg (by decide)]
      exact ok c c2
    · rw [if_neg c2, if_pos rfl, h8]
      exact w_119 (no (Or.inr c2))
theorem s_120l {T : Nat → Int32} {a b x3 : Int32} {q1 : Nat} {K : Int32 → St → Prop} : ∀ (d : Nat) {σ : St} {q : Nat} {x : Int32}, 240 - q = d → MX σ T q → σ 39 18 = Int32.ofNat q1 → σ 39 17 = x → q1 ≤ q → (q - q1 ≤ 3 → x = vl T q1 (q - q1)) → (∀ i, q1 ≤ i → i < q → dg (T i) = true) →
    (∀ σ' x', FrN σ σ' → MX σ' T (de T q) → σ' 39 18 = Int32.ofNat q1 → σ' 39 17 = x' → σ' 39 15 = σ 39 15 → (de T q - q1 ≤ 3 → x' = vl T q1 (de T q - q1)) → (¬ 3 < de T q - q1 → a ≤ x' ∧ x' ≤ b → K 0 σ') ∧ (3 < de T q - q1 ∨ ¬ (a ≤ x' ∧ x' ≤ b) → K 2 (s2 σ' 39 15 (Int32.ofNat q1)))) →
    PI 120 42 [some (.ref 39), some (.int a), some (.int b), some (.int x3)] [] σ K := by
  intro d
  induction d with
  | zero =>
    intro σ q x hd hR h8 h7 hq hx hg hK
    refine w_120_42 ?_
    rcases hR.end with ⟨c1, c2⟩ | ⟨c1, c2, -, -⟩
    · rw [if_pos c1]
      have e := de_F hR.ht (q := q) (by rw [c2]; decide)
      rw [e] at hK
      have k := hK σ x FrN.rf hR h8 h7 rfl hx
      exact s_120t hR.1 h8 h7 hq hR.2.1 k.1 k.2
    · omega
  | succ d ih =>
    intro σ q x hd hR h8 h7 hq hx hg hK
    refine w_120_42 ?_
    rcases hR.end with ⟨c1, c2⟩ | ⟨c1, c2, c3, c4⟩
    · rw [if_pos c1]
      have e := de_F hR.ht (q := q) (by rw [c2]; decide)
      rw [e] at hK
      have k := hK σ x FrN.rf hR h8 h7 rfl hx
      exact s_120t hR.1 h8 h7 hq hR.2.1 k.1 k.2
    · rw [if_neg c1, hR.ix.1, c4]
      refine ⟨by rw [hR.ix.2]; omega, s_109d ?_⟩
      cases c : dg (T q) with
      | false =>
        rw [cond_false, if_pos rfl]
        have e := de_F hR.ht (q := q) c
        rw [e] at hK
        have k := hK σ x FrN.rf hR h8 h7 rfl hx
        exact s_120t hR.1 h8 h7 hq hR.2.1 k.1 k.2
      | true =>
        rw [cond_true, if_neg (by decide)]
        have e := de_T hR.ht (q := q) c
        rw [e] at hK
        have hg' : ∀ i, q1 ≤ i → i < q + 1 → dg (T i) = true := fun i h1 h2 => by
          by_cases ci : i = q
          · rw [ci]; exact c
          · exact hg i h1 (by omega)
        have step : ∀ y : Int32, (q + 1 - q1 ≤ 3 → y = vl T q1 (q + 1 - q1)) → PI 120 42 [some (.ref 39), some (.int a), some (.int b), some (.int x3)] [] (s2 (s2 σ 39 17 y) 39 16 (σ 39 16 + 1)) K := fun y hy => by
          refine ih (q := q + 1) (x := y) (by omega) (hR.fr (by omega) (by rw [hR.1, of_s]; rfl) rfl (fun _ => rfl)) h8 rfl (by omega) hy hg' (fun σ' x' f h1 h2 h3 h4 h5 => hK σ' x' (FrN.tr ((FrN.u (j := 17) (by omega) (by omega)).tr (FrN.u (j := 16) (by omega) (by omega))) f) h1 h2 h3 h4 h5)
        by_cases ck : q - q1 ≤ 2
        · have hv := vl_b (T := T) (q := q1) (q - q1) (by omega) (fun i hi => hg _ (by omega) (by omega))
          have e7 : σ 39 17 = vl T q1 (q - q1) := h7.trans (hx (by omega))
          have l : (10000 : Int32).toInt = 10000 := rfl
          rw [if_pos (by rw [Int32.le_iff_toInt_le, e7, l]; omega)]
          refine ⟨by rw [hR.ix.2]; omega, ?_⟩
          refine step _ (fun _ => ?_)
          obtain ⟨k, hk⟩ : ∃ k, q = q1 + k := ⟨q - q1, by omega⟩
          have e1 : q - q1 = k := by omega
          have e2 : q + 1 - q1 = k + 1 := by omega
          rw [hR.ix.1, c4, e7, e1, e2, Int32.mul_comm]
          show _ = vl T q1 k * 10 + T (q1 + k) - 48
          rw [← hk]
        · split
          · exact ⟨by rw [hR.ix.2]; omega, step _ (fun z => absurd z (by omega))⟩
          · exact step _ (fun z => absurd z (by omega))
/-- takeNumber -/
theorem s_120 {σ : St} {T : Nat → Int32} {q : Nat} {a b : Int32} {K : Int32 → St → Prop} (h : MX σ T q) (ok : (nm T a b q).1 = 0 → ∀ σ', FrN σ σ' → MX σ' T (nm T a b q).2.2.2 → σ' 39 17 = (nm T a b q).2.2.1 → σ' 39 18 = Int32.ofNat (nm T a b q).2.1 → σ' 39 15 = σ 39 15 → K 0 σ') (no : ¬ (nm T a b q).1 = 0 → ∀ σ', FrN σ σ' → σ' 39 15 = Int32.ofNat (nm T a b q).2.1 → K (Int32.ofNat (nm T a b q).1) σ') : CI 120 [.ref 39, .int a, .int b] σ K := by
  refine w_120 (s_118c h fun σ1 f1 h1 => s_109d ?_)
  cases c : dg (T (sk T q)) with
  | false =>
    have hn : nm T a b q = (1, sk T q, 0, sk T q) := by unfold nm; rw [c, cond_false]
    rw [cond_false, if_pos rfl, h1.1]
    rw [hn] at no
    dsimp only at no
    exact w_119 (no (by decide) _ (f1.n.tr (FrN.u (by omega) (by omega))) rfl)
  | true =>
    rw [cond_true, if_neg (by decide)]
    have hn : nm T a b q = (if 3 < de T (sk T q) - sk T q ∨ ¬ (a ≤ vl T (sk T q) (min (de T (sk T q) - sk T q) 3) ∧ vl T (sk T q) (min (de T (sk T q) - sk T q) 3) ≤ b) then 2 else 0, sk T q, vl T (sk T q) (min (de T (sk T q) - sk T q) 3), de T (sk T q)) := by unfold nm; rw [c, cond_true]
    have fr : FrN σ1 (s2 (s2 σ1 39 18 (σ1 39 16)) 39 17 0) := (FrN.u (by omega) (by omega)).tr (FrN.u (by omega) (by omega))
    refine s_120l (q1 := sk T q) _ rfl (h1.fr h1.2.1 h1.1 rfl (fun _ => rfl)) h1.1 rfl (Nat.le_refl _) (fun _ => by rw [Nat.sub_self]; rfl) (fun i _ _ => by omega) (fun σ' x' f g1 g2 g3 g4 g5 => ⟨fun c3 c4 => ?_, fun c3 => ?_⟩)
    · have ex := g5 (by omega)
      have em : min (de T (sk T q) - sk T q) 3 = de T (sk T q) - sk T q := Nat.min_eq_left (by omega)
      rw [em, ← ex, if_neg (fun z => z.elim c3 (fun z => z c4))] at hn
      rw [hn] at ok
      exact ok rfl σ' ((f1.n.tr fr).tr f) g1 g3 g2 (g4.trans (f1 39 15 (by omega)))
    · have e2 : (nm T a b q).1 = 2 ∧ (nm T a b q).2.1 = sk T q := by
        rw [hn]
        refine ⟨if_pos ?_, rfl⟩
        by_cases c4 : 3 < de T (sk T q) - sk T q
        · exact Or.inl c4
        · have ex := g5 (by omega)
          have em : min (de T (sk T q) - sk T q) 3 = de T (sk T q) - sk T q := Nat.min_eq_left (by omega)
          rw [em, ← ex]
          exact Or.inr (c3.elim (fun z => absurd z c4) id)
      rw [e2.1, e2.2] at no
      exact no (by decide) _ (((f1.n.tr fr).tr f).tr (FrN.u (by omega) (by omega))) rfl
/-! what the reference has read -/
def MR (σ : St) (P : PS) : Prop := PB P ∧ σ 39 19 = Int32.ofNat (P.1 0) ∧ σ 39 20 = Int32.ofNat (P.1 1) ∧ σ 39 25 = Int32.ofNat (P.1 2) ∧ σ 39 28 = Int32.ofNat (P.1 3) ∧ σ 39 24 = P.2.1 ∧ (∀ j, j < P.1 1 → σ 48 j = P.2.2 0 j ∧ σ 49 j = P.2.2 1 j ∧ σ 50 j = P.2.2 2 j) ∧ (∀ j, j < P.1 2 → σ 51 j = P.2.2 3 j ∧ σ 52 j = P.2.2 4 j) ∧ (∀ j, j < P.1 3 → σ 53 j = P.2.2 5 j)
def FrQ (σ σ' : St) : Prop := ∀ k j : Nat, (k = 39 → j < 15 ∨ 28 < j) → (k < 48 ∨ 53 < k) → σ' k j = σ k j
theorem FrN.r {σ σ' : St} (h : FrN σ σ') : FrQ σ σ' := fun k j h1 _ => h k j (fun e => by have := h1 e; omega)
theorem FrQ.rf {σ : St} : FrQ σ σ := fun _ _ _ _ => rfl
theorem FrQ.tr {σ σ1 σ2 : St} (h : FrQ σ σ1) (h' : FrQ σ1 σ2) : FrQ σ σ2 := fun k j h1 h2 => (h' k j h1 h2).trans (h k j h1 h2)
theorem FrQ.u {σ : St} {j : Nat} {v : Int32} (h1 : 15 ≤ j) (h2 : j ≤ 28) : FrQ σ (s2 σ 39 j v) := fun k i hk _ => s2_ne _ _ (fun z => by have := hk z.1; omega)
theorem FrQ.a {σ : St} {k j : Nat} {v : Int32} (h1 : 48 ≤ k) (h2 : k ≤ 53) : FrQ σ (s2 σ k j v) := fun k' i _ hk => s2_ne _ _ (fun z => by omega)
theorem MR.ex {σ σ' : St} {P : PS} (h : MR σ P) (e1 : ∀ j, 19 ≤ j → σ' 39 j = σ 39 j) (e2 : ∀ k j, 48 ≤ k → k ≤ 53 → σ' k j = σ k j) : MR σ' P := by
  obtain ⟨h0, h1, h2, h3, h4, h5, h6, h7, h8⟩ := h
  refine ⟨h0, by rw [e1 19 (by omega)]; exact h1, by rw [e1 20 (by omega)]; exact h2, by rw [e1 25 (by omega)]; exact h3, by rw [e1 28 (by omega)]; exact h4, by rw [e1 24 (by omega)]; exact h5, fun j hj => ?_, fun j hj => ?_, fun j hj => ?_⟩
  · rw [e2 48 j (by omega) (by omega), e2 49 j (by omega) (by omega), e2 50 j (by omega) (by omega)]; exact h6 j hj
  · rw [e2 51 j (by omega) (by omega), e2 52 j (by omega) (by omega)]; exact h7 j hj
  · rw [e2 53 j (by omega) (by omega)]; exact h8 j hj
theorem MR.fr {σ σ' : St} {P : PS} (h : MR σ P) (f : FrN σ σ') : MR σ' P := h.ex (fun j hj => f 39 j (fun _ => by omega)) (fun k j h1 h2 => f k j (fun e => by omega))
/-- isTold -/
theorem s_123l {σ : St} {L : Nat} {r : Nat → Nat → Int32} {a b : Int32} {K : Int32 → St → Prop} (hL : L ≤ 12) (h20 : σ 39 20 = Int32.ofNat L) (hr : ∀ j, j < L → σ 48 j = r 0 j ∧ σ 49 j = r 1 j) (hK : K (bif jn r a b L then 1 else 0) σ) : ∀ (d i : Nat), i + d = L → PI 123 5 [some (.ref 39), some (.int a), some (.int b), some (.int (bif jn r a b i then 1 else 0)), some (.int (Int32.ofNat i))] [] σ K := by
  intro d
  induction d with
  | zero =>
    intro i hi
    refine w_123_5 ?_
    have e : i = L := by omega
    rw [h20, if_pos (by rw [Int32.le_iff_toInt_le, ti_of (by omega), ti_of (by omega)]; omega), e]
    refine ⟨?_, hK⟩
    cases jn r a b L with
    | true => exact Or.inr rfl
    | false => exact Or.inl rfl
  | succ d ih =>
    intro i hi
    refine w_123_5 ?_
    have ihn := ih (i + 1) (by omega)
    rw [h20, if_neg (by rw [Int32.le_iff_toInt_le, ti_of (by omega), ti_of (by omega)]; omega), of_s]
    cases hj : jn r a b i with
    | true =>
      rw [cond_true, if_neg (by decide)]
      rw [jn_mono hj (by omega)] at ihn
      exact ihn
    | false =>
      rw [cond_false, if_pos rfl]
      refine ⟨by rw [ti_of (by omega)]; omega, ?_⟩
      rw [tc_of (by omega), (hr i (by omega)).1, (hr i (by omega)).2]
      refine jn_key (fun h => ?_) (fun h => ?_)
      · have e : jn r a b (i + 1) = true := by
          unfold jn
          rw [hj, Bool.false_or, Bool.or_eq_true, decide_eq_true_eq, decide_eq_true_eq]
          exact h
        rw [e] at ihn
        exact ihn
      · have e : jn r a b (i + 1) = false := by
          unfold jn
          rw [hj, Bool.false_or, Bool.or_eq_false_iff, decide_eq_false_iff_not, decide_eq_false_iff_not]
          exact ⟨fun z => h (Or.inl z), fun z => h (Or.inr z)⟩
        rw [e] at ihn
        exact ihn
theorem s_123 {σ : St} {L : Nat} {r : Nat → Nat → Int32} {a b : Int32} {K : Int32 → St → Prop} (hL : L ≤ 12) (h20 : σ 39 20 = Int32.ofNat L) (hr : ∀ j, j < L → σ 48 j = r 0 j ∧ σ 49 j = r 1 j) (hK : K (bif jn r a b L then 1 else 0) σ) : CI 123 [.ref 39, .int a, .int b] σ K := w_123 (s_123l hL h20 hr hK L 0 (by omega))
theorem f_pos {f : Nat} (h : f ≤ 4) (h0 : ¬ f = 0) : ¬ Int32.ofNat f ≤ 0 ∧ ¬ Int32.ofNat f = 0 := by
  have l0 : (0 : Int32).toInt = 0 := rfl
  refine ⟨by rw [Int32.le_iff_toInt_le, ti_of (by omega), l0]; omega, fun z => h0 ((of_z (by omega)).mp z)⟩
/-- takePlaces -/
theorem s_122 {σ : St} {T : Nat → Int32} {q : Nat} {P : PS} {K : Int32 → St → Prop} (hX : MX σ T q) (hR : MR σ P) (ok : ∀ σ' q' P', cN T P q = ec T q' P' → FrQ σ σ' → MX σ' T q' → MR σ' P' → σ' 39 15 = σ 39 15 → K 0 σ') (no : ∀ σ' f p, ¬ f = 0 → f ≤ 4 → (cN T P q).1 = f → (cN T P q).2.1 = p → FrQ σ σ' → σ' 39 15 = Int32.ofNat p → K (Int32.ofNat f) σ') : CI 122 [.ref 39] σ K := by
  refine w_122 (s_120 hX (fun c σ1 f1 x1 v1 p1 w1 => ?_) (fun c σ1 f1 w1 => ?_))
  · have e : cN T P q = ec T (nm T 2 8 q).2.2.2 (pN P (nm T 2 8 q).2.2.1) := by unfold cN; rw [if_pos c]
    have hv := v_nat (nm_v c) (by decide)
    refine ok _ _ _ e (f1.r.tr (FrQ.u (by omega) (by omega))) (x1.fr x1.2.1 x1.1 rfl (fun _ => rfl)) ?_ w1
    obtain ⟨g0, g1, g2, g3, g4, g5, g6, g7, g8⟩ := hR.fr f1
    exact ⟨⟨hv.2.1, g0.2⟩, v1.trans hv.1.symm, g2, g3, g4, g5, g6, g7, g8⟩
  · have e : cN T P q = ((nm T 2 8 q).1, (nm T 2 8 q).2.1, P) := by unfold cN; rw [if_neg c]
    refine no _ _ _ c (Nat.le_trans nm_f (by omega)) (by rw [e]) (by rw [e]) (f1.r.tr (FrQ.u (by omega) (by omega))) w1
/-- takeInspector -/
theorem s_127 {σ : St} {T : Nat → Int32} {q : Nat} {P : PS} {K : Int32 → St → Prop} (hX : MX σ T q) (hR : MR σ P) (hl : P.1 3 < 4) (ok : ∀ σ' q' P', cJ T P q = ec T q' P' → FrQ σ σ' → MX σ' T q' → MR σ' P' → σ' 39 15 = σ 39 15 → K 0 σ') (no : ∀ σ' f p, ¬ f = 0 → f ≤ 4 → (cJ T P q).1 = f → (cJ T P q).2.1 = p → FrQ σ σ' → σ' 39 15 = Int32.ofNat p → K (Int32.ofNat f) σ') : CI 127 [.ref 39] σ K := by
  have l1 : (1 : Int32).toInt = 1 := rfl
  have em : σ 39 28 + 1 - 1 = Int32.ofNat (P.1 3) := by
    rw [hR.2.2.2.2.1, of_s]
    refine ti_inj ?_
    rw [ti_sub (by rw [ti_of (by omega), l1]; omega) (by rw [ti_of (by omega), l1]; omega), ti_of (by omega), ti_of (by omega), l1]
    omega
  refine w_127 ?_
  rw [em]
  have X1 : MX (s2 σ 39 28 (σ 39 28 + 1)) T q := hX.fr hX.2.1 hX.1 rfl (fun _ => rfl)
  have F1 : FrQ σ (s2 σ 39 28 (σ 39 28 + 1)) := FrQ.u (by omega) (by omega)
  refine w_121_53 (s_120 X1 (fun c σ1 f1 x1 v1 p1 w1 => ⟨by rw [ti_of (by omega)]; omega, ?_⟩) (fun c σ1 f1 w1 => ⟨by rw [ti_of (by omega)]; omega, ?_⟩))
  · have e : cJ T P q = ec T (nm T 1 12 q).2.2.2 (pJ P (nm T 1 12 q).2.2.1) := by unfold cJ; rw [if_pos c]
    rw [tc_of (by omega)]
    refine ok _ _ _ e ((F1.tr f1.r).tr (FrQ.a (by omega) (by omega))) (x1.fr x1.2.1 x1.1 rfl (fun _ => rfl)) ?_ w1
    obtain ⟨g0, g1, g2, g3, g4, g5, g6, g7, g8⟩ := hR
    have f39 : ∀ j, 19 ≤ j → σ1 39 j = (s2 σ 39 28 (σ 39 28 + 1)) 39 j := fun j hj => f1 39 j (fun _ => by omega)
    have fk : ∀ k j, 48 ≤ k → k ≤ 53 → σ1 k j = σ k j := fun k j h1 h2 => (f1 k j (fun e => by omega)).trans (s2_ne _ _ (by omega))
    refine ⟨⟨g0.1, g0.2.1, g0.2.2.1, hl⟩, (f39 19 (by omega)).trans g1, (f39 20 (by omega)).trans g2, (f39 25 (by omega)).trans g3, (f39 28 (by omega)).trans (by rw [g4, of_s]; rfl), (f39 24 (by omega)).trans g5, fun j hj => ?_, fun j hj => ?_, fun j hj => ?_⟩
    · show σ1 48 j = _ ∧ σ1 49 j = _ ∧ σ1 50 j = _
      rw [fk 48 j (by omega) (by omega), fk 49 j (by omega) (by omega), fk 50 j (by omega) (by omega)]; exact g6 j hj
    · show σ1 51 j = _ ∧ σ1 52 j = _
      rw [fk 51 j (by omega) (by omega), fk 52 j (by omega) (by omega)]; exact g7 j hj
    · show (if j = P.1 3 then σ1 39 17 else σ1 53 j) = (if j = P.1 3 then (nm T 1 12 q).2.2.1 else P.2.2 5 j)
      by_cases cj : j = P.1 3
      · rw [if_pos cj, if_pos cj]; exact v1
      · rw [if_neg cj, if_neg cj, fk 53 j (by omega) (by omega)]
        exact g8 j (by have : j < P.1 3 + 1 := hj; omega)
  · have e : cJ T P q = ((nm T 1 12 q).1, (nm T 1 12 q).2.1, P) := by unfold cJ; rw [if_neg c]
    exact no _ _ _ c (Nat.le_trans nm_f (by omega)) (by rw [e]) (by rw [e]) ((F1.tr f1.r).tr (FrQ.a (by omega) (by omega))) w1
