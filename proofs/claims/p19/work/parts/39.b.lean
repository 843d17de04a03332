/-! the class's reader -/
abbrev RS : Type := Nat × Nat × Nat × Int32
def RX (σ : St) (T : Nat → Int32) (s : RS) : Prop := σ 1 4 = Int32.ofNat s.1 ∧ σ 1 5 = Int32.ofNat s.2.1 ∧ σ 1 3 = Int32.ofNat s.2.2.1 ∧ σ 1 2 = s.2.2.2 ∧ s.1 ≤ 240 ∧ s.2.2.1 ≤ 4 ∧ ∃ n : Nat, n ≤ 240 ∧ (∀ i, i < n → ¬ σ 2 i = -1) ∧ σ 1 1 = Int32.ofNat n ∧ T = fun i => if i < n then σ 2 i else -1
def Fr1 (σ σ' : St) : Prop := ∀ k j : Nat, (k = 1 → j < 2 ∨ 5 < j) → σ' k j = σ k j
theorem Fr1.rf {σ : St} : Fr1 σ σ := fun _ _ _ => rfl
theorem Fr1.tr {σ σ1 σ2 : St} (h : Fr1 σ σ1) (h' : Fr1 σ1 σ2) : Fr1 σ σ2 := fun k j hk => (h' k j hk).trans (h k j hk)
theorem Fr1.u {σ : St} {j : Nat} {v : Int32} (h1 : 2 ≤ j) (h2 : j ≤ 5) : Fr1 σ (s2 σ 1 j v) := fun k i hk => s2_ne _ _ (fun z => by have := hk z.1; omega)
theorem RX.ht {σ : St} {T : Nat → Int32} {s : RS} (h : RX σ T s) : HT T := by
  obtain ⟨-, -, -, -, -, -, n, hn, -, -, rfl⟩ := h
  intro i hi
  show (if i < n then σ 2 i else -1) = -1
  rw [if_neg (by omega)]
theorem RX.u4 {σ : St} {T : Nat → Int32} {s : RS} (h : RX σ T s) {q : Nat} (hq : q ≤ 240) : RX (s2 σ 1 4 (Int32.ofNat q)) T (q, s.2) := ⟨rfl, h.2.1, h.2.2.1, h.2.2.2.1, hq, h.2.2.2.2.2.1, h.2.2.2.2.2.2⟩
theorem RX.inc {σ : St} {T : Nat → Int32} {s : RS} (h : RX σ T s) (hq : s.1 < 240) : RX (s2 σ 1 4 (σ 1 4 + 1)) T (s.1 + 1, s.2) := by
  rw [h.1, of_s]
  exact h.u4 hq
theorem RX.u5 {σ : St} {T : Nat → Int32} {s : RS} (h : RX σ T s) : RX (s2 σ 1 5 (σ 1 4)) T (s.1, s.1, s.2.2) := ⟨h.1, h.1, h.2.2.1, h.2.2.2.1, h.2.2.2.2⟩
theorem RX.fr {σ σ' : St} {T : Nat → Int32} {s : RS} (h : RX σ T s) (h1 : ∀ j, σ' 1 j = σ 1 j) (h2 : ∀ j, σ' 2 j = σ 2 j) : RX σ' T s := by
  obtain ⟨a1, a2, a3, a4, a5, a6, n, a7, a10, a8, a9⟩ := h
  refine ⟨by rw [h1]; exact a1, by rw [h1]; exact a2, by rw [h1]; exact a3, by rw [h1]; exact a4, a5, a6, n, a7, fun i hi => by rw [h2]; exact a10 i hi, by rw [h1]; exact a8, ?_⟩
  rw [a9]
  funext i
  rw [h2]
/-- letterHere -/
theorem s_34 {σ : St} {T : Nat → Int32} {s : RS} {K : Int32 → St → Prop} (hR : RX σ T s) (hK : K (T s.1) σ) : CI 34 [.ref 1] σ K := by
  obtain ⟨h4, h5, h3, h2, hq, hf, n, hn, hl, h1, rfl⟩ := hR
  refine w_34 ?_
  rw [h4, h1]
  have e0 : (Int32.ofNat s.1).toInt = s.1 := ti_of (by omega)
  have e1 : (Int32.ofNat n).toInt = n := ti_of (by omega)
  have l0 : (0 : Int32).toInt = 0 := rfl
  have l1 : (240 : Int32).toInt = 240 := rfl
  rw [if_neg (by rw [Int32.lt_iff_toInt_lt, e0, l0]; omega)]
  by_cases c : s.1 < n
  · rw [if_neg (by rw [Int32.le_iff_toInt_le, e0, e1]; omega), if_neg (by rw [Int32.le_iff_toInt_le, e0, l1]; omega)]
    refine ⟨by rw [e0]; omega, ?_⟩
    rw [tc_of (by omega)]
    dsimp only at hK
    rw [if_pos c] at hK
    exact hK
  · rw [if_pos (by rw [Int32.le_iff_toInt_le, e0, e1]; omega)]
    dsimp only at hK
    rw [if_neg c] at hK
    exact hK
/-- isFigure -/
theorem s_35 {σ : St} {x : Int32} {K : Int32 → St → Prop} (hK : K (bif dg x then 1 else 0) σ) : CI 35 [.int x] σ K := by
  refine w_35 ?_
  by_cases c : x < 48
  · rw [if_pos c]
    have : dg x = false := by unfold dg; exact decide_eq_false fun z => Int32.not_le.mpr c z.1
    rw [this] at hK
    exact hK
  · rw [if_neg c]
    by_cases c2 : 57 < x
    · rw [if_pos c2]
      have : dg x = false := by unfold dg; exact decide_eq_false fun z => Int32.not_le.mpr c2 z.2
      rw [this] at hK
      exact hK
    · rw [if_neg c2]
      have : dg x = true := by unfold dg; exact decide_eq_true ⟨Int32.not_lt.mp c, Int32.not_lt.mp c2⟩
      rw [this] at hK
      exact hK
/-- passBlanks -/
theorem RX.end {σ : St} {T : Nat → Int32} {s : RS} (h : RX σ T s) : (σ 1 1 ≤ σ 1 4 ∧ T s.1 = -1) ∨ (¬ σ 1 1 ≤ σ 1 4 ∧ s.1 < 240 ∧ ¬ T s.1 = -1) := by
  obtain ⟨h4, h5, h3, h2, hq, hf, n, hn, hl, h1, rfl⟩ := h
  have e0 : (Int32.ofNat s.1).toInt = s.1 := ti_of (by omega)
  have e1 : (Int32.ofNat n).toInt = n := ti_of (by omega)
  rw [h1, h4, Int32.le_iff_toInt_le, e0, e1]
  by_cases c : s.1 < n
  · exact Or.inr ⟨by omega, by omega, by dsimp only; rw [if_pos c]; exact hl _ c⟩
  · exact Or.inl ⟨by omega, by dsimp only; rw [if_neg c]⟩
theorem s_33 {T : Nat → Int32} {K : St → Prop} : ∀ (d : Nat) {σ : St} {s : RS}, 240 - s.1 = d → RX σ T s → (∀ σ', Fr1 σ σ' → RX σ' T (sk T s.1, s.2) → K σ') → PV 33 0 [some (.ref 1)] [] σ K := by
  intro d
  induction d with
  | zero =>
    intro σ s hd hR hK
    refine w_33 ?_
    rcases hR.end with ⟨c1, c2⟩ | ⟨c1, c2, -⟩
    · rw [if_pos c1]
      refine hK σ Fr1.rf ?_
      rw [sk_F hR.ht (by rw [c2]; decide)]
      exact hR
    · omega
  | succ d ih =>
    intro σ s hd hR hK
    refine w_33 ?_
    rcases hR.end with ⟨c1, c2⟩ | ⟨c1, c2, -⟩
    · rw [if_pos c1]
      refine hK σ Fr1.rf ?_
      rw [sk_F hR.ht (by rw [c2]; decide)]
      exact hR
    · rw [if_neg c1]
      refine s_34 hR ?_
      by_cases c : T s.1 = 32
      · rw [if_pos c]
        refine ih (s := (s.1 + 1, s.2)) (by dsimp only; omega) (hR.inc c2) (fun σ' f h => hK σ' ((Fr1.u (by omega) (by omega)).tr f) ?_)
        rw [sk_T hR.ht c]
        exact h
      · rw [if_neg c]
        refine hK σ Fr1.rf ?_
        rw [sk_F hR.ht c]
        exact hR
theorem s_33c {σ : St} {T : Nat → Int32} {s : RS} {K : St → Prop} (hR : RX σ T s) (hK : ∀ σ', Fr1 σ σ' → RX σ' T (sk T s.1, s.2) → K σ') : CV 33 [.ref 1] σ K := s_33 _ rfl hR hK
/-- spoil -/
def sp (f p : Nat) (s : RS) : RS := if s.2.2.1 = 0 then (s.1, s.2.1, f, Int32.ofNat p) else s
theorem s_36 {σ : St} {T : Nat → Int32} {s : RS} {f p : Nat} {K : St → Prop} (hR : RX σ T s) (hf : f ≤ 4) (hK : ∀ σ', Fr1 σ σ' → RX σ' T (sp f p s) → K σ') : CV 36 [.ref 1, .int (Int32.ofNat f), .int (Int32.ofNat p)] σ K := by
  refine w_36 ?_
  by_cases c : s.2.2.1 = 0
  · have e : σ 1 3 = 0 := by rw [hR.2.2.1, c]; rfl
    rw [if_pos e]
    refine hK _ ((Fr1.u (j := 3) (by omega) (by omega)).tr (Fr1.u (j := 2) (by omega) (by omega))) ?_
    unfold sp
    rw [if_pos c]
    exact ⟨hR.1, hR.2.1, rfl, rfl, hR.2.2.2.2.1, hf, hR.2.2.2.2.2.2⟩
  · have e : ¬ σ 1 3 = 0 := by
      rw [hR.2.2.1]
      intro z
      exact c (of_inj (n := s.2.2.1) (m := 0) (by have := hR.2.2.2.2.2.1; omega) (by omega) z)
    rw [if_neg e]
    refine hK _ Fr1.rf ?_
    unfold sp
    rw [if_neg c]
    exact hR
/-- number -/
theorem s_31_35 {T : Nat → Int32} {a b : Int32} {q1 : Nat} {r : Nat × Int32} {K : Int32 → St → Prop} : ∀ (d : Nat) {σ : St} {q : Nat} {x : Int32}, 240 - q = d → RX σ T (q, q1, r) → q1 ≤ q → x = vl T q1 (min (q - q1) 3) → (∀ σ', Fr1 σ σ' → RX σ' T (de T q, q1, r) → PI 31 95 [some (.ref 1), some (.int a), some (.int b), some (.int (vl T q1 (min (de T q - q1) 3)))] [] σ' K) → PI 31 35 [some (.ref 1), some (.int a), some (.int b), some (.int x)] [] σ K := by
  intro d
  induction d with
  | zero =>
    intro σ q x hd hR hq hx hK
    refine w_31_35 ?_
    rcases hR.end with ⟨c1, c2⟩ | ⟨c1, c2, -⟩
    · rw [if_pos c1]
      have e := de_F hR.ht (q := q) (by dsimp only at c2; rw [c2]; decide)
      have := hK σ Fr1.rf (by rw [e]; exact hR)
      rw [e, ← hx] at this
      exact this
    · dsimp only at c2; omega
  | succ d ih =>
    intro σ q x hd hR hq hx hK
    refine w_31_35 ?_
    rcases hR.end with ⟨c1, c2⟩ | ⟨c1, c2, -⟩
    · rw [if_pos c1]
      have e := de_F hR.ht (q := q) (by dsimp only at c2; rw [c2]; decide)
      have := hK σ Fr1.rf (by rw [e]; exact hR)
      rw [e, ← hx] at this
      exact this
    · dsimp only at c2
      rw [if_neg c1]
      refine s_34 hR (s_35 ?_)
      cases c : dg (T q) with
      | false =>
        rw [cond_false, if_pos rfl]
        have e := de_F hR.ht (q := q) c
        have := hK σ Fr1.rf (by rw [e]; exact hR)
        rw [e, ← hx] at this
        exact this
      | true =>
        rw [cond_true, if_neg (by decide)]
        have e := de_T hR.ht (q := q) c
        rw [e] at hK
        have hs : (σ 1 4 - σ 1 5).toInt = (q : Int) - q1 := by
          rw [hR.1, hR.2.1]
          dsimp only
          rw [ti_sub (by rw [ti_of (by omega), ti_of (by omega)]; omega) (by rw [ti_of (by omega), ti_of (by omega)]; omega), ti_of (by omega), ti_of (by omega)]
        have l3 : (3 : Int32).toInt = 3 := rfl
        by_cases c3 : 3 ≤ q - q1
        · rw [if_pos (by rw [Int32.le_iff_toInt_le, hs, l3]; omega)]
          refine ih (by omega) (hR.inc (s := (q, q1, r)) c2) (by omega) ?_ (fun σ' f h => hK σ' ((Fr1.u (by omega) (by omega)).tr f) h)
          rw [hx, Nat.min_eq_right c3, Nat.min_eq_right (by omega)]
        · rw [if_neg (by rw [Int32.le_iff_toInt_le, hs, l3]; omega)]
          refine s_34 hR ?_
          refine ih (by omega) (hR.inc (s := (q, q1, r)) c2) (by omega) ?_ (fun σ' f h => hK σ' ((Fr1.u (by omega) (by omega)).tr f) h)
          rw [hx, Nat.min_eq_left (by omega), Nat.min_eq_left (by omega)]
          obtain ⟨k, hk⟩ : ∃ k, q = q1 + k := ⟨q - q1, by omega⟩
          have e1 : q - q1 = k := by omega
          have e2 : q + 1 - q1 = k + 1 := by omega
          rw [e1, e2, hk]
          rfl
def numX (T : Nat → Int32) (a b : Int32) (s : RS) : RS := if (nm T a b s.1).1 = 0 then ((nm T a b s.1).2.2.2, (nm T a b s.1).2.1, s.2.2) else sp (nm T a b s.1).1 (nm T a b s.1).2.1 ((nm T a b s.1).2.2.2, (nm T a b s.1).2.1, s.2.2)
theorem s_91 {a b c : Int32} {σ : St} {K : Int32 → St → Prop} (hK : K (if b ≤ a ∧ a ≤ c then 1 else 0) σ) : CI 91 [.int a, .int b, .int c] σ K := pw_within ⟨_, rfl, hK⟩
theorem s_31 {σ : St} {T : Nat → Int32} {s : RS} {a b : Int32} {K : Int32 → St → Prop} (hR : RX σ T s) (hK : ∀ σ', Fr1 σ σ' → RX σ' T (numX T a b s) → K (nm T a b s.1).2.2.1 σ') : CI 31 [.ref 1, .int a, .int b] σ K := by
  have ht := hR.ht
  refine w_31 (s_33c hR fun σ1 f1 h1 => ?_)
  have h2 := h1.u5
  have f2 : Fr1 σ (s2 σ1 1 5 (σ1 1 4)) := f1.tr (Fr1.u (by omega) (by omega))
  refine s_34 h2 (s_35 ?_)
  generalize s2 σ1 1 5 (σ1 1 4) = σ2 at h2 f2
  dsimp only at h2 ⊢
  have hq : sk T s.1 ≤ 240 := h2.2.2.2.2.1
  cases c : dg (T (sk T s.1)) with
  | false =>
    have hn : nm T a b s.1 = (1, sk T s.1, 0, sk T s.1) := by unfold nm; rw [c, cond_false]
    rw [cond_false, if_pos rfl, h2.1]
    unfold numX at hK
    rw [hn] at hK
    dsimp only at hK
    rw [if_neg (by decide)] at hK
    exact s_36 (f := 1) h2 (by omega) (fun σ' f h => hK σ' (f2.tr f) h)
  | true =>
    rw [cond_true, if_neg (by decide)]
    refine s_31_35 _ rfl h2 (Nat.le_refl _) (by rw [Nat.sub_self]; rfl) (fun σ3 f3 h3 => ?_)
    have hn : nm T a b s.1 = (if 3 < de T (sk T s.1) - sk T s.1 ∨ ¬ (a ≤ vl T (sk T s.1) (min (de T (sk T s.1) - sk T s.1) 3) ∧ vl T (sk T s.1) (min (de T (sk T s.1) - sk T s.1) 3) ≤ b) then 2 else 0, sk T s.1, vl T (sk T s.1) (min (de T (sk T s.1) - sk T s.1) 3), de T (sk T s.1)) := by unfold nm; rw [c, cond_true]
    generalize hv : vl T (sk T s.1) (min (de T (sk T s.1) - sk T s.1) 3) = v at hn ⊢
    have hge := de_ge T (sk T s.1)
    have hle := h3.2.2.2.2.1
    dsimp only at hle
    have hs : (σ3 1 4 - σ3 1 5).toInt = (de T (sk T s.1) : Int) - sk T s.1 := by
      rw [h3.1, h3.2.1]
      dsimp only
      rw [ti_sub (by rw [ti_of (by omega), ti_of (by omega)]; omega) (by rw [ti_of (by omega), ti_of (by omega)]; omega), ti_of (by omega), ti_of (by omega)]
    have l3 : (3 : Int32).toInt = 3 := rfl
    refine w_31_95 ?_
    unfold numX at hK
    by_cases c3 : 3 < de T (sk T s.1) - sk T s.1
    · rw [if_pos (by rw [Int32.lt_iff_toInt_lt, hs, l3]; omega), h3.2.1]
      rw [if_pos (Or.inl c3)] at hn
      rw [hn] at hK
      dsimp only at hK
      rw [if_neg (by decide)] at hK
      exact s_36 (f := 2) h3 (by omega) (fun σ' f h => hK σ' ((f2.tr f3).tr f) h)
    · rw [if_neg (by rw [Int32.lt_iff_toInt_lt, hs, l3]; omega)]
      refine s_91 ?_
      by_cases c4 : a ≤ v ∧ v ≤ b
      · rw [if_pos c4, if_neg (by decide)]
        rw [if_neg (fun z => z.elim c3 (fun z => z c4))] at hn
        rw [hn] at hK
        dsimp only at hK
        rw [if_pos rfl] at hK
        exact hK σ3 (f2.tr f3) h3
      · rw [if_neg c4, if_pos rfl, h3.2.1]
        rw [if_pos (Or.inr c4)] at hn
        rw [hn] at hK
        dsimp only at hK
        rw [if_neg (by decide)] at hK
        exact s_36 (f := 2) h3 (by omega) (fun σ' f h => hK σ' ((f2.tr f3).tr f) h)
/-- endClause -/
def endX (T : Nat → Int32) (s : RS) : RS := if T (sk T s.1) = 59 then (sk T s.1 + 1, s.2) else sp 1 (sk T s.1) (sk T s.1, s.2)
theorem s_32 {σ : St} {T : Nat → Int32} {s : RS} {K : St → Prop} (hR : RX σ T s) (hK : ∀ σ', Fr1 σ σ' → RX σ' T (endX T s) → K σ') : CV 32 [.ref 1] σ K := by
  have ht := hR.ht
  refine w_32 (s_33c hR fun σ1 f1 h1 => s_34 h1 ?_)
  unfold endX at hK
  dsimp only at h1 ⊢
  by_cases c : T (sk T s.1) = 59
  · rw [if_pos c] at hK ⊢
    refine hK _ (f1.tr (Fr1.u (by omega) (by omega))) (h1.inc ?_)
    show sk T s.1 < 240
    refine Classical.not_not.mp fun z => ?_
    rw [ht _ (by omega)] at c
    exact absurd c (by decide)
  · rw [if_neg c] at hK ⊢
    rw [h1.1]
    exact s_36 (f := 1) h1 (by omega) (fun σ' f h => hK σ' (f1.tr f) h)
/-- forbid -/
def fbX (b : Int32) (s : RS) : RS := if b = 0 then s else sp 2 s.2.1 s
theorem s_30 {σ : St} {T : Nat → Int32} {s : RS} {b : Int32} {K : St → Prop} (hR : RX σ T s) (hK : ∀ σ', Fr1 σ σ' → RX σ' T (fbX b s) → K σ') : CV 30 [.ref 1, .int b] σ K := by
  refine w_30 ?_
  unfold fbX at hK
  by_cases c : b = 0
  · rw [if_pos c] at hK ⊢
    exact hK σ Fr1.rf hR
  · rw [if_neg c] at hK ⊢
    rw [hR.2.1]
    exact s_36 (f := 2) hR (by omega) hK
/-! once a fault is found, it stays -/
def FM (σ : St) (T : Nat → Int32) (f p : Nat) : Prop := f ≠ 0 ∧ ∃ q na, RX σ T (q, na, f, Int32.ofNat p)
theorem sp_F {f p : Nat} {s : RS} (h : s.2.2.1 ≠ 0) : sp f p s = s := by unfold sp; rw [if_neg h]
theorem FM.sp {σ : St} {T : Nat → Int32} {f p : Nat} {K : St → Prop} (h : FM σ T f p) {f' p' : Nat} (hf : f' ≤ 4) (hK : ∀ σ', Fr1 σ σ' → FM σ' T f p → K σ') : CV 36 [.ref 1, .int (Int32.ofNat f'), .int (Int32.ofNat p')] σ K := by
  obtain ⟨h1, q, na, h2⟩ := h
  exact s_36 h2 hf fun σ' g h => hK σ' g ⟨h1, q, na, by rw [sp_F h1] at h; exact h⟩
theorem FM.num {σ : St} {T : Nat → Int32} {f p : Nat} {a b : Int32} {K : Int32 → St → Prop} (h : FM σ T f p) (hK : ∀ v σ', Fr1 σ σ' → FM σ' T f p → K v σ') : CI 31 [.ref 1, .int a, .int b] σ K := by
  obtain ⟨h1, q, na, h2⟩ := h
  refine s_31 h2 fun σ' g h => hK _ σ' g ⟨h1, (nm T a b q).2.2.2, (nm T a b q).2.1, ?_⟩
  unfold numX at h
  split at h
  · exact h
  · rw [sp_F h1] at h
    exact h
theorem FM.ec {σ : St} {T : Nat → Int32} {f p : Nat} {K : St → Prop} (h : FM σ T f p) (hK : ∀ σ', Fr1 σ σ' → FM σ' T f p → K σ') : CV 32 [.ref 1] σ K := by
  obtain ⟨h1, q, na, h2⟩ := h
  refine s_32 h2 fun σ' g h => hK σ' g ?_
  unfold endX at h
  split at h
  · exact ⟨h1, _, _, h⟩
  · rw [sp_F h1] at h
    exact ⟨h1, _, _, h⟩
theorem FM.fb {σ : St} {T : Nat → Int32} {f p : Nat} {b : Int32} {K : St → Prop} (h : FM σ T f p) (hK : ∀ σ', Fr1 σ σ' → FM σ' T f p → K σ') : CV 30 [.ref 1, .int b] σ K := by
  obtain ⟨h1, q, na, h2⟩ := h
  refine s_30 h2 fun σ' g h => hK σ' g ?_
  unfold fbX at h
  split at h
  · exact ⟨h1, _, _, h⟩
  · rw [sp_F h1] at h
    exact ⟨h1, _, _, h⟩
theorem FM.ne {σ : St} {T : Nat → Int32} {f p : Nat} (h : FM σ T f p) : ¬ σ 1 3 = 0 := by
  obtain ⟨h1, q, na, h2⟩ := h
  rw [h2.2.2.1]
  intro z
  exact h1 (of_inj (n := f) (m := 0) (by have := h2.2.2.2.2.2.1; dsimp only at this; omega) (by omega) z)
/-- a number, where no fault was found -/
theorem N_num {σ : St} {T : Nat → Int32} {q na : Nat} {fa a b : Int32} {K : Int32 → St → Prop} (h : RX σ T (q, na, 0, fa)) (ok : (nm T a b q).1 = 0 → ∀ σ', Fr1 σ σ' → RX σ' T ((nm T a b q).2.2.2, (nm T a b q).2.1, 0, fa) → K (nm T a b q).2.2.1 σ') (no : ¬ (nm T a b q).1 = 0 → ∀ v σ', Fr1 σ σ' → FM σ' T (nm T a b q).1 (nm T a b q).2.1 → K v σ') : CI 31 [.ref 1, .int a, .int b] σ K := by
  refine s_31 h fun σ' f h => ?_
  unfold numX at h
  dsimp only at h
  split at h
  · rename_i c
    exact ok c σ' f h
  · rename_i c
    unfold sp at h
    rw [if_pos rfl] at h
    exact no c _ σ' f ⟨c, _, _, h⟩
theorem N_ec {σ : St} {T : Nat → Int32} {q na : Nat} {fa : Int32} {K : St → Prop} (h : RX σ T (q, na, 0, fa)) (ok : T (sk T q) = 59 → ∀ σ', Fr1 σ σ' → RX σ' T (sk T q + 1, na, 0, fa) → K σ') (no : ¬ T (sk T q) = 59 → ∀ σ', Fr1 σ σ' → FM σ' T 1 (sk T q) → K σ') : CV 32 [.ref 1] σ K := by
  refine s_32 h fun σ' f h => ?_
  unfold endX at h
  dsimp only at h
  split at h
  · rename_i c
    exact ok c σ' f h
  · rename_i c
    unfold sp at h
    rw [if_pos rfl] at h
    exact no c σ' f ⟨by decide, _, _, h⟩
theorem N_fb {σ : St} {T : Nat → Int32} {q na : Nat} {fa b : Int32} {K : St → Prop} (h : RX σ T (q, na, 0, fa)) (ok : b = 0 → ∀ σ', Fr1 σ σ' → RX σ' T (q, na, 0, fa) → K σ') (no : ¬ b = 0 → ∀ σ', Fr1 σ σ' → FM σ' T 2 na → K σ') : CV 30 [.ref 1, .int b] σ K := by
  refine s_30 h fun σ' f h => ?_
  unfold fbX at h
  dsimp only at h
  split at h
  · rename_i c
    exact ok c σ' f h
  · rename_i c
    unfold sp at h
    rw [if_pos rfl] at h
    exact no c σ' f ⟨by decide, _, _, h⟩
