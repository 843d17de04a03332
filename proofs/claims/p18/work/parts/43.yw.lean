/-! the weights' first cells stay 0 -/
def J4 (σ : St) : Prop := J3 σ ∧ W0 σ
def okWt (md : List (Nat × Nat)) (am : List Nat) : Bool := md.all (fun q => decide (¬ (q.1 = 35 ∨ q.1 = 36))) && am.all (fun a => decide (¬ (a = 35 ∨ a = 36)))
theorem okWt_ok {md : List (Nat × Nat)} {am : List Nat} (h : okWt md am = true) {σ σ' : St} (f : FrM md am σ σ') (h0 : W0 σ) : W0 σ' := by
  unfold okWt at h
  rw [Bool.and_eq_true] at h
  have e : ∀ k j, k = 35 ∨ k = 36 → σ' k j = σ k j := fun k j hs => by
    refine fr_k f (fun q hq z => ?_) (fun a ha z => ?_)
    · have := of_decide_eq_true (List.all_eq_true.mp h.1 q hq)
      rw [z.1] at this
      exact this hs
    · have := of_decide_eq_true (List.all_eq_true.mp h.2 a ha)
      rw [z] at this
      exact this hs
  exact ⟨(e 35 0 (Or.inl rfl)).trans h0.1, (e 36 0 (Or.inr rfl)).trans h0.2⟩
theorem w0_m {y1 y2 : Nat} {vs1 vs2 : List Value} {md1 md2 : List (Nat × Nat)} {am1 am2 : List Nat} {σ : St} (c1 : CI y1 vs1 σ (fun _ σ' => W0 σ')) (h1 : CI y1 vs1 σ (fun _ σ' => Inv σ' ∧ FrM md1 am1 σ σ')) (h2 : ∀ σ1, Inv σ1 → CI y2 vs2 σ1 (fun _ σ' => Inv σ' ∧ FrM md2 am2 σ1 σ')) (k2 : okWt md2 am2 = true) : CI y1 vs1 σ (fun _ σ1 => CI y2 vs2 σ1 (fun _ σ2 => W0 σ2)) := (c1.and h1).imp fun _ σ1 h => (h2 σ1 h.2.1).imp fun _ _ h' => okWt_ok k2 h'.2 h.1
theorem w0_2 {y1 y2 : Nat} {vs1 vs2 : List Value} {md1 md2 : List (Nat × Nat)} {am1 am2 : List Nat} {σ : St} (h0 : W0 σ) (h1 : CI y1 vs1 σ (fun _ σ' => Inv σ' ∧ FrM md1 am1 σ σ')) (h2 : ∀ σ1, Inv σ1 → CI y2 vs2 σ1 (fun _ σ' => Inv σ' ∧ FrM md2 am2 σ1 σ')) (k1 : okWt md1 am1 = true) (k2 : okWt md2 am2 = true) : CI y1 vs1 σ (fun _ σ1 => CI y2 vs2 σ1 (fun _ σ2 => W0 σ2)) := w0_m (h1.imp fun _ _ h => okWt_ok k1 h.2 h0) h1 h2 k2
theorem ag4 {y1 y2 : Nat} {vs1 vs2 : List Value} {σ : St} (ag : CI y1 vs1 σ (fun v1 σ1 => CI y2 vs2 σ1 (fun v2 σ2 => v2 = v1 ∧ J3 σ2))) (w : CI y1 vs1 σ (fun _ σ1 => CI y2 vs2 σ1 (fun _ σ2 => W0 σ2))) {K : Int32 → Int32 → St → Prop} (hK : ∀ v σ', J4 σ' → K v v σ') : CI y1 vs1 σ (fun v1 σ1 => CI y2 vs2 σ1 (fun v2 σ2 => K v1 v2 σ2)) :=
  ag_imp (ag_and ag w) (fun v1 v2 σ' h => by
    obtain ⟨⟨e, h1⟩, h2⟩ := h
    rw [e]
    exact hK _ _ ⟨h1, h2⟩)
theorem J4_call {c : Con} (hs : Sat c) (hp : cPr c = []) (hg : cGp c = false) (hk : mRK (cY c) ≠ 0) (hf : okB (cMd c) (cAm c) = true) (hf2 : okB2 (cMd c) (cAm c) = true) (hf3 : okX (cMd c) (cAm c) = true) (hf4 : okK (cMd c) (cAm c) = true) (hf5 : okWt (cMd c) (cAm c) = true) {vs : List Value} (ha : argsS (cAr c) vs) {σ : St} (hJ : J4 σ) {K : Int32 → St → Prop} (hK : ∀ v σ', J4 σ' → K v σ') : CI (cY c) vs σ K :=
  ((CI.con hs hp hg hk ha hJ.1.1.1.1).and (J3_call hs hp hg hk hf hf2 hf3 hf4 ha hJ.1 (K := fun _ σ' => J3 σ') (fun _ _ h => h))).imp fun v σ' h => hK v σ' ⟨h.2, okWt_ok hf5 h.1.2 hJ.2⟩
