/-! journey, write, tear, keep, goBack -/
theorem JB_mod {σ σ' : St} (e : ∀ k j, Dp k j → ¬ k = 29 → ¬ (k = 39 ∧ (j = 34 ∨ j = 37)) → ¬ (k = 0 ∧ j = 11) → ¬ k = 62 → σ' k j = σ k j) (h : JB σ) (h2 : σ' 29 0 = σ' 39 34) (h3 : σ' 29 1 = σ' 39 37) (h4 : JK σ') : JB σ' := by
  obtain ⟨⟨t1, t2⟩, ⟨P, hx, hm⟩, h1, -⟩ := h
  have e11 := e 1 1 (by unfold Dp; omega) (by omega) (by omega) (by omega) (by omega)
  refine ⟨⟨?_, fun i hi => ?_⟩, ⟨P, ?_, ?_⟩, ?_, h2, h3, h4⟩
  · rw [e11, (e 39 14 (by unfold Dp; omega) (by omega) (by omega) (by omega) (by omega))]; exact t1
  · rw [(e 2 i (by unfold Dp; omega) (by omega) (by omega) (by omega) (by omega)), (e 47 i (by unfold Dp; omega) (by omega) (by omega) (by omega) (by omega))]
    exact t2 i (by rw [e11] at hi; exact hi)
  · obtain ⟨b0, a1, a2, a3, a4, a5, a6, a7⟩ := hx
    refine ⟨b0, by rw [(e 11 0 (by unfold Dp; omega) (by omega) (by omega) (by omega) (by omega))]; exact a1, by rw [(e 11 1 (by unfold Dp; omega) (by omega) (by omega) (by omega) (by omega))]; exact a2, by rw [(e 11 2 (by unfold Dp; omega) (by omega) (by omega) (by omega) (by omega))]; exact a3, by rw [(e 11 3 (by unfold Dp; omega) (by omega) (by omega) (by omega) (by omega))]; exact a4, fun j hj => ?_, fun j hj => ?_, fun j hj => ?_⟩
    · rw [(e 12 j (by unfold Dp; omega) (by omega) (by omega) (by omega) (by omega)), (e 13 j (by unfold Dp; omega) (by omega) (by omega) (by omega) (by omega)), (e 14 j (by unfold Dp; omega) (by omega) (by omega) (by omega) (by omega))]; exact a5 j hj
    · rw [(e 16 j (by unfold Dp; omega) (by omega) (by omega) (by omega) (by omega))]; exact a6 j hj
    · rw [(e 18 j (by unfold Dp; omega) (by omega) (by omega) (by omega) (by omega))]; exact a7 j hj
  · obtain ⟨a1, a2, a3, a4, a5, a6, a7⟩ := hm
    refine ⟨by rw [(e 39 0 (by unfold Dp; omega) (by omega) (by omega) (by omega) (by omega))]; exact a1, by rw [(e 39 1 (by unfold Dp; omega) (by omega) (by omega) (by omega) (by omega))]; exact a2, by rw [(e 39 6 (by unfold Dp; omega) (by omega) (by omega) (by omega) (by omega))]; exact a3, by rw [(e 39 9 (by unfold Dp; omega) (by omega) (by omega) (by omega) (by omega))]; exact a4, fun j hj => ?_, fun j hj => ?_, fun j hj => ?_⟩
    · rw [(e 40 j (by unfold Dp; omega) (by omega) (by omega) (by omega) (by omega)), (e 41 j (by unfold Dp; omega) (by omega) (by omega) (by omega) (by omega)), (e 42 j (by unfold Dp; omega) (by omega) (by omega) (by omega) (by omega))]; exact a5 j hj
    · rw [(e 43 j (by unfold Dp; omega) (by omega) (by omega) (by omega) (by omega))]; exact a6 j hj
    · rw [(e 45 j (by unfold Dp; omega) (by omega) (by omega) (by omega) (by omega))]; exact a7 j hj
  · rw [(e 0 10 (by unfold Dp; omega) (by omega) (by omega) (by omega) (by omega)), (e 39 15 (by unfold Dp; omega) (by omega) (by omega) (by omega) (by omega))]; exact h1
abbrev inR (n : Nat) (a : Int32) : Prop := 0 ≤ a.toInt ∧ a.toInt < n
theorem s_84 {σ : St} {n : Nat} {a : Int32} {K : Int32 → St → Prop} (h : σ 11 0 = Int32.ofNat n) (hn : n ≤ 8) (hK : K (if inR n a then 1 else 0) σ) : CI 84 [.ref 0, .int a] σ K := by
  refine w_84 ?_
  have l0 : (0 : Int32).toInt = 0 := rfl
  have l8 : (8 : Int32).toInt = 8 := rfl
  rw [h]
  simp only [Int32.lt_iff_toInt_lt, Int32.le_iff_toInt_le, ti_of (show n < 2147483648 by omega), l0, l8]
  by_cases c : inR n a
  · rw [if_pos c] at hK
    unfold inR at c
    rw [if_neg (by omega), if_neg (by omega), if_neg (by omega)]; exact hK
  · rw [if_neg c] at hK
    unfold inR at c
    split
    · exact hK
    · split
      · exact hK
      · rw [if_pos (by omega)]; exact hK
theorem s_86 {σ : St} {n : Nat} {a : Int32} {K : Int32 → St → Prop} (h : σ 11 2 = Int32.ofNat n) (hn : n ≤ 5) (hK : K (if inR n a then 1 else 0) σ) : CI 86 [.ref 0, .int a] σ K := by
  refine w_86 ?_
  have l0 : (0 : Int32).toInt = 0 := rfl
  have l8 : (5 : Int32).toInt = 5 := rfl
  rw [h]
  simp only [Int32.lt_iff_toInt_lt, Int32.le_iff_toInt_le, ti_of (show n < 2147483648 by omega), l0, l8]
  by_cases c : inR n a
  · rw [if_pos c] at hK
    unfold inR at c
    rw [if_neg (by omega), if_neg (by omega), if_neg (by omega)]; exact hK
  · rw [if_neg c] at hK
    unfold inR at c
    split
    · exact hK
    · split
      · exact hK
      · rw [if_pos (by omega)]; exact hK
theorem s_in {σ : St} {n : Nat} {a : Int32} {K : Int32 → St → Prop} (hn : n ≤ 12) (hK : K (if inR n a then 1 else 0) σ) : CI 109 [.long (Int32.toInt64 a), .long 0, .long (Int32.toInt64 (Int32.ofNat n - 1))] σ (fun v1 σ1 => ((v1 = 0 ∨ v1 = 1) ∧ K v1 σ1)) := by
  have l0 : (0 : Int32).toInt = 0 := rfl
  have l1 : (1 : Int32).toInt = 1 := rfl
  have e : (Int32.ofNat n - 1).toInt = (n : Int) - 1 := by rw [ti_sub (by rw [ti_of (by omega), l1]; omega) (by rw [ti_of (by omega), l1]; omega), ti_of (by omega), l1]
  refine s_109 (b := 0) ?_
  have eq : (0 ≤ a ∧ a ≤ Int32.ofNat n - 1) ↔ inR n a := by
    rw [Int32.le_iff_toInt_le, Int32.le_iff_toInt_le, l0, e]
    unfold inR
    omega
  by_cases c : inR n a
  · rw [if_pos (eq.mpr c)]
    rw [if_pos c] at hK
    exact ⟨Or.inr rfl, hK⟩
  · rw [if_neg (fun z => c (eq.mp z))]
    rw [if_neg c] at hK
    exact ⟨Or.inl rfl, hK⟩
theorem s_112 {σ : St} {n : Nat} {a : Int32} {K : Int32 → St → Prop} (h : σ 39 0 = Int32.ofNat n) (hn : n ≤ 8) (hK : K (if inR n a then 1 else 0) σ) : CI 112 [.ref 39, .int a] σ K := by
  refine w_112 ?_
  rw [h]
  exact s_in (by omega) hK
theorem s_115 {σ : St} {n : Nat} {a : Int32} {K : Int32 → St → Prop} (h : σ 39 6 = Int32.ofNat n) (hn : n ≤ 5) (hK : K (if inR n a then 1 else 0) σ) : CI 115 [.ref 39, .int a] σ K := by
  refine w_115 ?_
  rw [h]
  exact s_in (by omega) hK
abbrev twoR (n : Nat) (a b : Int32) : Prop := inR n a ∧ inR n b ∧ ¬ a = b
theorem ite10 {p : Prop} [Decidable p] {A B : Prop} (h1 : p → B) (h2 : ¬ p → A) : (if (if p then (1 : Int32) else 0) = 0 then A else B) := by
  by_cases c : p
  · rw [if_pos c, if_neg (by decide)]; exact h1 c
  · rw [if_neg c, if_pos rfl]; exact h2 c
theorem s_89 {σ : St} {n : Nat} {a b : Int32} {K : Int32 → St → Prop} (h : σ 11 0 = Int32.ofNat n) (hn : n ≤ 8) (hK : K (if twoR n a b then 1 else 0) σ) : CI 89 [.ref 0, .int a, .int b] σ K := by
  refine w_89 (s_84 h hn (ite10 (fun c1 => s_84 h hn (ite10 (fun c2 => ?_) (fun c2 => ?_))) (fun c1 => ?_)))
  · by_cases c3 : a = b
    · rw [if_pos c3]; rw [if_neg (fun z => z.2.2 c3)] at hK; exact hK
    · rw [if_neg c3]; rw [if_pos ⟨c1, c2, c3⟩] at hK; exact hK
  · rw [if_neg (fun z => c2 z.2.1)] at hK; exact hK
  · rw [if_neg (fun z => c1 z.1)] at hK; exact hK
theorem s_113 {σ : St} {n : Nat} {a b : Int32} {K : Int32 → St → Prop} (h : σ 39 0 = Int32.ofNat n) (hn : n ≤ 8) (hK : K (if twoR n a b then 1 else 0) σ) : CI 113 [.ref 39, .int a, .int b] σ K := by
  refine w_113 (s_112 h hn (ite10 (fun c1 => s_112 h hn (ite10 (fun c2 => ?_) (fun c2 => ?_))) (fun c1 => ?_)))
  · by_cases c3 : a = b
    · rw [if_pos c3]; rw [if_neg (fun z => z.2.2 c3)] at hK; exact hK
    · rw [if_neg c3]; rw [if_pos ⟨c1, c2, c3⟩] at hK; exact hK
  · rw [if_neg (fun z => c2 z.2.1)] at hK; exact hK
  · rw [if_neg (fun z => c1 z.1)] at hK; exact hK
/-- what a counted row does: refused, one more, full -/
def Cnt (p : Prop) (m : Int) (u : Int32) (n v n' : Int32) : Prop := (¬ p ∧ v = u ∧ n' = n) ∨ (p ∧ n.toInt < m ∧ v = n + 1 ∧ n' = n + 1) ∨ (p ∧ ¬ n.toInt < m ∧ v = -1000000004 ∧ n' = n)
theorem Cnt.ag {p : Prop} {m : Int} {u n v n' v2 n2' : Int32} (h : Cnt p m u n v n') (h' : Cnt p m u n v2 n2') : v2 = v ∧ n2' = n' := by
  rcases h with ⟨a, rfl, rfl⟩ | ⟨a, b, rfl, rfl⟩ | ⟨a, b, rfl, rfl⟩ <;> rcases h' with ⟨a', rfl, rfl⟩ | ⟨a', b', rfl, rfl⟩ | ⟨a', b', rfl, rfl⟩ <;> first | exact ⟨rfl, rfl⟩ | exact absurd a a' | exact absurd a' a | exact absurd b b' | exact absurd b' b
theorem s_77 {σ : St} {n : Nat} {a b : Int32} (hI : Inv σ) (h : σ 11 0 = Int32.ofNat n) (hn : n ≤ 8) : CI 77 [.ref 0, .int a, .int b] σ (fun v σ' => Cnt (twoR n a b) 4 (-1000000001) (σ 29 0) v (σ' 29 0)) := by
  have b1 : 0 ≤ (σ 29 0).toInt ∧ (σ 29 0).toInt ≤ 4 := hI.1 29 0
  have l4 : (4 : Int32).toInt = 4 := rfl
  refine w_77 (s_89 h hn (ite10 (fun c => w_1 ?_) (fun c => Or.inl ⟨c, rfl, rfl⟩)))
  by_cases d : (σ 29 0).toInt < 4
  · rw [if_pos (by rw [Int32.lt_iff_toInt_lt, l4]; exact d)]
    exact ⟨⟨b1.1, d⟩, Or.inr (Or.inl ⟨c, d, rfl, rfl⟩)⟩
  · rw [if_neg (by rw [Int32.lt_iff_toInt_lt, l4]; exact d)]
    exact Or.inr (Or.inr ⟨c, d, rfl, rfl⟩)
theorem s_184 {σ : St} {n : Nat} {a b : Int32} (hI : Inv σ) (h : σ 39 0 = Int32.ofNat n) (hn : n ≤ 8) : CI 184 [.ref 39, .int a, .int b] σ (fun v σ' => Cnt (twoR n a b) 4 (-1000000001) (σ 39 34) v (σ' 39 34)) := by
  have b1 : 0 ≤ (σ 39 34).toInt ∧ (σ 39 34).toInt ≤ 4 := hI.1 39 34
  have l4 : (4 : Int32).toInt = 4 := rfl
  refine w_184 (s_113 h hn (ite10 (fun c => ?_) (fun c => Or.inl ⟨c, rfl, rfl⟩)))
  by_cases d : σ 39 34 = 4
  · rw [if_pos d]
    exact Or.inr (Or.inr ⟨c, by rw [d, l4]; omega, rfl, rfl⟩)
  · rw [if_neg d]
    have d2 : (σ 39 34).toInt < 4 := by
      have : (σ 39 34).toInt ≠ 4 := fun e => d (ti_inj (e.trans l4.symm))
      omega
    exact ⟨⟨b1.1, d2⟩, Or.inr (Or.inl ⟨c, d2, rfl, rfl⟩)⟩
/-- write -/
def Wrt (p q : Prop) (n v n' : Int32) : Prop := (¬ p ∧ v = -1000000001 ∧ n' = n) ∨ (p ∧ Cnt q 15 (-1000000002) n v n')
theorem Wrt.ag {p q : Prop} {n v n' v2 n2' : Int32} (h : Wrt p q n v n') (h' : Wrt p q n v2 n2') : v2 = v ∧ n2' = n' := by
  rcases h with ⟨a, rfl, rfl⟩ | ⟨a, b⟩ <;> rcases h' with ⟨a', rfl, rfl⟩ | ⟨a', b'⟩
  · exact ⟨rfl, rfl⟩
  · exact absurd a' a
  · exact absurd a a'
  · exact b.ag b'
theorem s_78 {σ : St} {n : Nat} {a b : Int32} (hI : Inv σ) (h : σ 11 2 = Int32.ofNat n) (hn : n ≤ 5) : CI 78 [.ref 0, .int a, .int b] σ (fun v σ' => Wrt (inR n a) (0 ≤ b ∧ b ≤ 99999) (σ 29 1) v (σ' 29 1)) := by
  have b1 : 0 ≤ (σ 29 1).toInt ∧ (σ 29 1).toInt ≤ 15 := hI.1 29 1
  have l4 : (15 : Int32).toInt = 15 := rfl
  refine w_78 (s_86 h hn (ite10 (fun c => s_91 (ite10 (fun c2 => w_2 ?_) (fun c2 => Or.inr ⟨c, Or.inl ⟨c2, rfl, rfl⟩⟩))) (fun c => Or.inl ⟨c, rfl, rfl⟩)))
  by_cases d : (σ 29 1).toInt < 15
  · rw [if_pos (by rw [Int32.lt_iff_toInt_lt, l4]; exact d)]
    exact ⟨⟨b1.1, d⟩, Or.inr ⟨c, Or.inr (Or.inl ⟨c2, d, rfl, rfl⟩)⟩⟩
  · rw [if_neg (by rw [Int32.lt_iff_toInt_lt, l4]; exact d)]
    exact Or.inr ⟨c, Or.inr (Or.inr ⟨c2, d, rfl, rfl⟩)⟩
theorem s_185 {σ : St} {n : Nat} {a b : Int32} (hI : Inv σ) (h : σ 39 6 = Int32.ofNat n) (hn : n ≤ 5) : CI 185 [.ref 39, .int a, .int b] σ (fun v σ' => Wrt (inR n a) (0 ≤ b ∧ b ≤ 99999) (σ 39 37) v (σ' 39 37)) := by
  have b1 : 0 ≤ (σ 39 37).toInt ∧ (σ 39 37).toInt ≤ 15 := hI.1 39 37
  have l4 : (15 : Int32).toInt = 15 := rfl
  refine w_185 (s_115 h hn (ite10 (fun c => s_109 (b := 0) (c := 99999) (ite10 (fun c2 => ?_) (fun c2 => Or.inr ⟨c, Or.inl ⟨c2, rfl, rfl⟩⟩))) (fun c => Or.inl ⟨c, rfl, rfl⟩)))
  by_cases d : σ 39 37 = 15
  · rw [if_pos d]
    exact Or.inr ⟨c, Or.inr (Or.inr ⟨c2, by rw [d, l4]; omega, rfl, rfl⟩)⟩
  · rw [if_neg d]
    have d2 : (σ 39 37).toInt < 15 := by
      have : (σ 39 37).toInt ≠ 15 := fun e => d (ti_inj (e.trans l4.symm))
      omega
    exact ⟨⟨b1.1, d2⟩, Or.inr ⟨c, Or.inr (Or.inl ⟨c2, d2, rfl, rfl⟩)⟩⟩
/-- tear -/
theorem s_79 {σ : St} : CI 79 [.ref 0] σ (fun v σ' => v = σ 29 0 + σ 29 1 ∧ σ' 29 0 = 0 ∧ σ' 29 1 = 0) := w_79 (w_0 ⟨rfl, rfl, rfl⟩)
theorem s_186 {σ : St} : CI 186 [.ref 39] σ (fun v σ' => v = σ 39 34 + σ 39 37 ∧ σ' 39 34 = 0 ∧ σ' 39 37 = 0) := w_186 ⟨rfl, rfl, rfl⟩
