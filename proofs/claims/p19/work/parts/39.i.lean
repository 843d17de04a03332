/-! what class and reference share: the text, the plan, the fault, the book's counts, the images that are kept -/
def JT (σ : St) : Prop := σ 1 1 = σ 39 14 ∧ ∀ i : Nat, i < (σ 1 1).toInt.toNat → σ 2 i = σ 47 i ∧ 0 ≤ (σ 2 i).toInt
def JK (σ : St) : Prop := (σ 0 11 = 0 ∧ σ 62 0 = 0 ∧ σ 62 1 = 0) ∨ (σ 0 11 = 1 ∧ σ 62 0 = 1 ∧ σ 62 1 = 0) ∨ (σ 0 11 = 2 ∧ σ 62 0 = 0 ∧ σ 62 1 = 1) ∨ (σ 0 11 = 3 ∧ σ 62 0 = 1 ∧ σ 62 1 = 1)
def JB (σ : St) : Prop := JT σ ∧ (∃ P, XP σ P ∧ MPl σ P) ∧ σ 0 10 = σ 39 15 ∧ σ 29 0 = σ 39 34 ∧ σ 29 1 = σ 39 37 ∧ JK σ
def J (σ : St) : Prop := Inv σ ∧ JB σ
abbrev Dp (k j : Nat) : Prop := (k = 0 ∧ (j = 10 ∨ j = 11)) ∨ (k = 1 ∧ j = 1) ∨ k = 2 ∨ (k = 11 ∧ j < 4) ∨ k = 12 ∨ k = 13 ∨ k = 14 ∨ k = 16 ∨ k = 18 ∨ (k = 29 ∧ j < 2) ∨ (k = 39 ∧ (j = 0 ∨ j = 1 ∨ j = 6 ∨ j = 9 ∨ j = 14 ∨ j = 15 ∨ j = 34 ∨ j = 37)) ∨ (40 ≤ k ∧ k ≤ 43) ∨ k = 45 ∨ k = 47 ∨ k = 62
theorem JB_ex {σ σ' : St} (e : ∀ k j, Dp k j → σ' k j = σ k j) (h : JB σ) : JB σ' := by
  obtain ⟨⟨t1, t2⟩, ⟨P, hx, hm⟩, h1, h2, h3, h4⟩ := h
  have e11 := e 1 1 (by unfold Dp; omega)
  refine ⟨⟨?_, fun i hi => ?_⟩, ⟨P, ?_, ?_⟩, ?_, ?_, ?_, ?_⟩
  · rw [e11, e 39 14 (by unfold Dp; omega)]; exact t1
  · rw [e 2 i (by unfold Dp; omega), e 47 i (by unfold Dp; omega)]
    exact t2 i (by rw [e11] at hi; exact hi)
  · obtain ⟨b0, a1, a2, a3, a4, a5, a6, a7⟩ := hx
    refine ⟨b0, by rw [e 11 0 (by unfold Dp; omega)]; exact a1, by rw [e 11 1 (by unfold Dp; omega)]; exact a2, by rw [e 11 2 (by unfold Dp; omega)]; exact a3, by rw [e 11 3 (by unfold Dp; omega)]; exact a4, fun j hj => ?_, fun j hj => ?_, fun j hj => ?_⟩
    · rw [e 12 j (by unfold Dp; omega), e 13 j (by unfold Dp; omega), e 14 j (by unfold Dp; omega)]; exact a5 j hj
    · rw [e 16 j (by unfold Dp; omega)]; exact a6 j hj
    · rw [e 18 j (by unfold Dp; omega)]; exact a7 j hj
  · obtain ⟨a1, a2, a3, a4, a5, a6, a7⟩ := hm
    refine ⟨by rw [e 39 0 (by unfold Dp; omega)]; exact a1, by rw [e 39 1 (by unfold Dp; omega)]; exact a2, by rw [e 39 6 (by unfold Dp; omega)]; exact a3, by rw [e 39 9 (by unfold Dp; omega)]; exact a4, fun j hj => ?_, fun j hj => ?_, fun j hj => ?_⟩
    · rw [e 40 j (by unfold Dp; omega), e 41 j (by unfold Dp; omega), e 42 j (by unfold Dp; omega)]; exact a5 j hj
    · rw [e 43 j (by unfold Dp; omega)]; exact a6 j hj
    · rw [e 45 j (by unfold Dp; omega)]; exact a7 j hj
  · rw [e 0 10 (by unfold Dp; omega), e 39 15 (by unfold Dp; omega)]; exact h1
  · rw [e 29 0 (by unfold Dp; omega), e 39 34 (by unfold Dp; omega)]; exact h2
  · rw [e 29 1 (by unfold Dp; omega), e 39 37 (by unfold Dp; omega)]; exact h3
  · unfold JK; rw [e 0 11 (by unfold Dp; omega), e 62 0 (by unfold Dp; omega), e 62 1 (by unfold Dp; omega)]; exact h4
/-- a contract's frame -/
theorem fr_k {md : List (Nat × Nat)} {am : List Nat} {σ σ' : St} (h : FrM md am σ σ') {k j : Nat} (h1 : ∀ q ∈ md, ¬ (q.1 = k ∧ q.2 = j)) (h2 : ∀ a ∈ am, ¬ a = k) : σ' k j = σ k j := by
  refine h k j ?_ ?_
  · cases hb : inP md k j with
    | false => rfl
    | true =>
      obtain ⟨z, hz, hz2⟩ := List.any_eq_true.mp hb
      rw [Bool.and_eq_true] at hz2
      exact absurd ⟨Nat.eq_of_beq_eq_true hz2.1, Nat.eq_of_beq_eq_true hz2.2⟩ (h1 z hz)
  · cases hb : inN1 am k with
    | false => rfl
    | true =>
      obtain ⟨z, hz, hz2⟩ := List.any_eq_true.mp hb
      exact absurd (Nat.eq_of_beq_eq_true hz2) (h2 z hz)
theorem CI.imp {y : Nat} {vs : List Value} {σ : St} {K K' : Int32 → St → Prop} (h : CI y vs σ K) (k : ∀ v σ', K v σ' → K' v σ') : CI y vs σ K' := PW.mono h (fun _ σ' ⟨v, e, z⟩ => ⟨v, e, k v σ' z⟩)
theorem CI.and {y : Nat} {vs : List Value} {σ : St} {K K' : Int32 → St → Prop} (h : CI y vs σ K) (h' : CI y vs σ K') : CI y vs σ (fun v σ' => K v σ' ∧ K' v σ') := PW.mono (PW.both h h') (fun _ σ' ⟨⟨v, e, z⟩, ⟨v', e', z'⟩⟩ => ⟨v, e, z, by
  have : v' = v := by rw [e] at e'; cases e'; rfl
  rw [← this]; exact z'⟩)
/-- what a contract gives -/
theorem CI.con {c : Con} (hs : Sat c) (hp : cPr c = []) (hg : cGp c = false) (hk : mRK (cY c) ≠ 0) {vs : List Value} (ha : argsS (cAr c) vs) {σ : St} (hI : Inv σ) : CI (cY c) vs σ (fun _ σ' => Inv σ' ∧ FrM (cMd c) (cAm c) σ σ') :=
  PW.mono (hs vs σ hI ha (by rw [hp]; exact fun f hf => absurd hf List.not_mem_nil) (by rw [hg]; exact fun e => by cases e)) (fun _ σ' ⟨a, b, c1, _⟩ => by
    obtain ⟨x, e⟩ := c1.2 hk
    exact ⟨x, e, a, b⟩)
theorem aI {x : Int32} {lo hi : Int} (h1 : lo ≤ -2147483648) (h2 : 2147483647 ≤ hi) : argS (0, lo, hi) (.int x) := ⟨x, rfl, by have := ti_r x; dsimp only; omega, by have := ti_r x; dsimp only; omega⟩
def okFr (md : List (Nat × Nat)) (am : List Nat) : Prop := (∀ q ∈ md, ¬ Dp q.1 q.2) ∧ ∀ a ∈ am, ∀ j, ¬ Dp a j
theorem J_fr {md : List (Nat × Nat)} {am : List Nat} {σ σ' : St} (h : okFr md am) (f : FrM md am σ σ') (hJ : JB σ) : JB σ' := JB_ex (fun k j hD => fr_k f (fun q hq z => h.1 q hq (by rw [z.1, z.2]; exact hD)) (fun a ha z => h.2 a ha j (by rw [z]; exact hD))) hJ
def okB (md : List (Nat × Nat)) (am : List Nat) : Bool := md.all (fun q => decide (¬ Dp q.1 q.2)) && am.all (fun a => decide (¬ (a ≤ 2 ∨ a = 11 ∨ a = 12 ∨ a = 13 ∨ a = 14 ∨ a = 16 ∨ a = 18 ∨ a = 29 ∨ (39 ≤ a ∧ a ≤ 43) ∨ a = 45 ∨ a = 47 ∨ a = 62)))
theorem okB_ok {md : List (Nat × Nat)} {am : List Nat} (h : okB md am = true) : okFr md am := by
  unfold okB at h
  rw [Bool.and_eq_true] at h
  refine ⟨fun q hq => of_decide_eq_true (List.all_eq_true.mp h.1 q hq), fun a ha j hD => ?_⟩
  have := of_decide_eq_true (List.all_eq_true.mp h.2 a ha)
  unfold Dp at hD
  omega
/-- a call that touches nothing of it -/
theorem J_call {c : Con} (hs : Sat c) (hp : cPr c = []) (hg : cGp c = false) (hk : mRK (cY c) ≠ 0) (hf : okB (cMd c) (cAm c) = true) {vs : List Value} (ha : argsS (cAr c) vs) {σ : St} (hJ : J σ) {K : Int32 → St → Prop} (hK : ∀ v σ', J σ' → K v σ') : CI (cY c) vs σ K :=
  (CI.con hs hp hg hk ha hJ.1).imp fun v σ' h => hK v σ' ⟨h.1, J_fr (okB_ok hf) h.2 hJ.2⟩
