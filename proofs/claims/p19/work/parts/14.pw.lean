/-! the pure machine without fuel: rows -/
theorem pw_det : ∀ (n : Nat) (X : Scr) (y pc : Nat) (lv : Lv) (st : List Value) (σ : St) (Q : Option Value → St → Prop), pw n X y pc lv st σ Q → ∃ r σ', Q r σ' ∧ ∀ Q' : Option Value → St → Prop, Q' r σ' → ∀ k, n ≤ k → pw k X y pc lv st σ Q' := by
  intro n
  induction n with
  | zero => intro X y pc lv st σ Q h; exact absurd h (by simp [pw])
  | succ n ih =>
    intro X y pc lv st σ Q h
    have lift : ∀ {P : Nat → Prop}, (∀ k, n ≤ k → P (k + 1)) → ∀ k, n + 1 ≤ k → P k := by
      intro P hP k hk
      obtain ⟨j, rfl⟩ : ∃ j, k = j + 1 := ⟨k - 1, by omega⟩
      exact hP j (by omega)
    unfold pw at h
    split at h
    · exact h.elim
    · rename_i i ln hi
      split at h
      · split at h
        · rename_i r
          exact ⟨_, _, h.2, fun Q' hq => lift fun k hk => by unfold pw; simp only [hi]; exact ⟨h.1, hq⟩⟩
        · exact h.elim
      · obtain ⟨rfl, h1, h2⟩ := h
        exact ⟨_, _, h2, fun Q' hq => lift fun k hk => by unfold pw; simp only [hi]; exact ⟨trivial, h1, hq⟩⟩
      · rename_i idx
        split at h
        · rename_i y' hc
          split at h
          · rename_i b rest hdr
            obtain ⟨g1, g2, g3, g4, g5⟩ := h
            obtain ⟨r1, σ1, a1, a2⟩ := ih _ _ _ _ _ _ _ g5
            obtain ⟨r2, σ2, b1, b2⟩ := ih _ _ _ _ _ _ _ a1
            refine ⟨r2, σ2, b1, fun Q' hq => lift fun k hk => ?_⟩
            unfold pw
            simp only [hi, hc, hdr]
            exact ⟨g1, g2, g3, g4, a2 _ (b2 Q' hq k hk) k hk⟩
          · exact h.elim
        · exact h.elim
      · rename_i idx
        split at h
        · rename_i y' hc
          split at h
          · rename_i q hq0
            obtain ⟨r2, σ2, b1, b2⟩ := ih _ _ _ _ _ _ _ h
            refine ⟨r2, σ2, b1, fun Q' hq => lift fun k hk => ?_⟩
            unfold pw
            simp only [hi, hc, hq0]
            exact b2 Q' hq k hk
          · exact h.elim
        · rename_i y' hc
          split at h
          · rename_i q hq0
            obtain ⟨r2, σ2, b1, b2⟩ := ih _ _ _ _ _ _ _ h
            refine ⟨r2, σ2, b1, fun Q' hq => lift fun k hk => ?_⟩
            unfold pw
            simp only [hi, hc, hq0]
            exact b2 Q' hq k hk
          · exact h.elim
        · rename_i y' hc
          split at h
          · rename_i q hq0
            obtain ⟨r2, σ2, b1, b2⟩ := ih _ _ _ _ _ _ _ h
            refine ⟨r2, σ2, b1, fun Q' hq => lift fun k hk => ?_⟩
            unfold pw
            simp only [hi, hc, hq0]
            exact b2 Q' hq k hk
          · exact h.elim
        · rename_i y' hc
          obtain ⟨g2, g3, g4, g5⟩ := h
          obtain ⟨r1, σ1, a1, a2⟩ := ih _ _ _ _ _ _ _ g5
          obtain ⟨r2, σ2, b1, b2⟩ := ih _ _ _ _ _ _ _ a1
          refine ⟨r2, σ2, b1, fun Q' hq => lift fun k hk => ?_⟩
          unfold pw
          simp only [hi, hc]
          exact ⟨g2, g3, g4, a2 _ (b2 Q' hq k hk) k hk⟩
        · rename_i y' hc
          obtain ⟨g2, g3, g4, g5⟩ := h
          obtain ⟨r1, σ1, a1, a2⟩ := ih _ _ _ _ _ _ _ g5
          obtain ⟨r2, σ2, b1, b2⟩ := ih _ _ _ _ _ _ _ a1
          refine ⟨r2, σ2, b1, fun Q' hq => lift fun k hk => ?_⟩
          unfold pw
          simp only [hi, hc]
          exact ⟨g2, g3, g4, a2 _ (b2 Q' hq k hk) k hk⟩
        · exact h.elim
      · rename_i h1 h2 h3 h4
        split at h
        · rename_i q hq0
          obtain ⟨r2, σ2, b1, b2⟩ := ih _ _ _ _ _ _ _ h
          refine ⟨r2, σ2, b1, fun Q' hq => lift fun k hk => ?_⟩
          unfold pw
          rw [hi]
          dsimp only
          split
          · exact absurd rfl (h1 ·)
          · exact absurd rfl (h2 ·)
          · exact absurd rfl (h3 _ ·)
          · exact absurd rfl (h4 _ ·)
          · simp only [hq0]
            exact b2 Q' hq k hk
        · exact h.elim
def PW (X : Scr) (y pc : Nat) (lv : Lv) (st : List Value) (σ : St) (Q : Option Value → St → Prop) : Prop := ∃ n, pw n X y pc lv st σ Q
theorem PW.mono {X : Scr} {y pc : Nat} {lv : Lv} {st : List Value} {σ : St} {Q Q' : Option Value → St → Prop} (h : PW X y pc lv st σ Q) (k : ∀ r σ', Q r σ' → Q' r σ') : PW X y pc lv st σ Q' := by
  obtain ⟨n, h⟩ := h
  obtain ⟨r, σ', h1, h2⟩ := pw_det n _ _ _ _ _ _ _ h
  exact ⟨n, h2 Q' (k _ _ h1) n (Nat.le_refl n)⟩
/-- is it an instruction of the step's kind? -/
def isSt : Instr → Bool
  | .ireturn | .return_ | .invokevirtual _ | .invokestatic _ => false
  | _ => true
theorem PW.step {X : Scr} {y pc ln : Nat} {i : Instr} {lv : Lv} {st : List Value} {σ : St} {Q : Option Value → St → Prop} {q : Rs} (hi : ins y pc = some (i, ln)) (hk : isSt i = true) (hs : stp X (mOC y) i pc lv st σ = some q) (h : PW X y q.1 q.2.1 q.2.2.1 q.2.2.2 Q) : PW X y pc lv st σ Q := by
  obtain ⟨n, h⟩ := h
  refine ⟨n + 1, ?_⟩
  unfold pw
  rw [hi]
  dsimp only
  split
  · cases hk
  · cases hk
  · cases hk
  · cases hk
  · simp only [hs]; exact h
theorem PW.iret {X : Scr} {y pc ln : Nat} {lv : Lv} {r : Int32} {σ : St} {Q : Option Value → St → Prop} (hi : ins y pc = some (.ireturn, ln)) (hr : rOK y r) (h : Q (some (.int r)) σ) : PW X y pc lv [.int r] σ Q := by
  refine ⟨1, ?_⟩
  unfold pw
  simp only [hi]
  exact ⟨hr, h⟩
theorem PW.vret {X : Scr} {y pc ln : Nat} {lv : Lv} {σ : St} {Q : Option Value → St → Prop} (hi : ins y pc = some (.return_, ln)) (hr : mRK y = 0) (h : Q none σ) : PW X y pc lv [] σ Q := by
  refine ⟨1, ?_⟩
  unfold pw
  simp only [hi]
  exact ⟨trivial, hr, h⟩
theorem PW.callV {X : Scr} {y pc ln idx y' b : Nat} {lv : Lv} {vs rest : List Value} {σ : St} {Q : Option Value → St → Prop} (hi : ins y pc = some (.invokevirtual idx, ln)) (hc : pcall y idx = some (0, y')) (hn : vs.length = mNP y') (ho : (objF b (mOC y')).isSome = true) (hr : (rest.map fun v => v.category).sum ≤ 8) (hl : (lva (.ref b :: vs)).length ≤ mML y')
    (h : PW none y' 0 (ent y' (.ref b :: vs)) [] σ (fun r σ' => PW X y (pc + 3) lv (r.toList ++ rest) σ' Q)) : PW X y pc lv (vs.reverse ++ .ref b :: rest) σ Q := by
  obtain ⟨n, h⟩ := h
  obtain ⟨r, σ', ⟨n2, h1⟩, h2⟩ := pw_det n _ _ _ _ _ _ _ h
  obtain ⟨r3, σ3, c1, c2⟩ := pw_det n2 _ _ _ _ _ _ _ h1
  refine ⟨max n n2 + 1, ?_⟩
  unfold pw
  have e1 : (vs.reverse ++ Value.ref b :: rest).drop (mNP y') = Value.ref b :: rest := by rw [← hn, ← List.length_reverse (as := vs), List.drop_left]
  have e2 : (vs.reverse ++ Value.ref b :: rest).take (mNP y') = vs.reverse := by rw [← hn, ← List.length_reverse (as := vs), List.take_left]
  simp only [hi, hc, e1, e2, List.reverse_reverse, List.length_reverse]
  exact ⟨ho, hn, hr, hl, h2 _ (c2 Q c1 _ (Nat.le_max_right n n2)) _ (Nat.le_max_left n n2)⟩
theorem PW.callS {X : Scr} {y pc ln idx k y' : Nat} {lv : Lv} {vs rest : List Value} {σ : St} {Q : Option Value → St → Prop} (hi : ins y pc = some (.invokestatic idx, ln)) (hc : pcall y idx = some (k, y')) (hk : k = 1 ∨ k = 2) (hn : vs.length = mNP y') (hr : (rest.map fun v => v.category).sum ≤ 8) (hl : (lva vs).length ≤ mML y')
    (h : PW none y' 0 (ent y' vs) [] σ (fun r σ' => PW X y (pc + 3) lv (r.toList ++ rest) σ' Q)) : PW X y pc lv (vs.reverse ++ rest) σ Q := by
  obtain ⟨n, h⟩ := h
  obtain ⟨r, σ', ⟨n2, h1⟩, h2⟩ := pw_det n _ _ _ _ _ _ _ h
  obtain ⟨r3, σ3, c1, c2⟩ := pw_det n2 _ _ _ _ _ _ _ h1
  refine ⟨max n n2 + 1, ?_⟩
  unfold pw
  have e1 : (vs.reverse ++ rest).drop (mNP y') = rest := by rw [← hn, ← List.length_reverse (as := vs), List.drop_left]
  have e2 : (vs.reverse ++ rest).take (mNP y') = vs.reverse := by rw [← hn, ← List.length_reverse (as := vs), List.take_left]
  rcases hk with rfl | rfl
  · simp only [hi, hc, e1, e2, List.reverse_reverse, List.length_reverse]
    exact ⟨hn, hr, hl, h2 _ (c2 Q c1 _ (Nat.le_max_right n n2)) _ (Nat.le_max_left n n2)⟩
  · simp only [hi, hc, e1, e2, List.reverse_reverse, List.length_reverse]
    exact ⟨hn, hr, hl, h2 _ (c2 Q c1 _ (Nat.le_max_right n n2)) _ (Nat.le_max_left n n2)⟩
theorem PW.copy {X : Scr} {y pc ln idx y' : Nat} {lv : Lv} {st : List Value} {σ : St} {Q : Option Value → St → Prop} {q : Rs} (hi : ins y pc = some (.invokestatic idx, ln)) (hc : pcall y idx = some (3, y')) (hs : acp pc lv st σ = some q) (h : PW X y q.1 q.2.1 q.2.2.1 q.2.2.2 Q) : PW X y pc lv st σ Q := by
  obtain ⟨n, h⟩ := h
  refine ⟨n + 1, ?_⟩
  unfold pw
  simp only [hi, hc, hs]
  exact h
theorem PW.max {X : Scr} {y pc ln idx y' : Nat} {lv : Lv} {st : List Value} {σ : St} {Q : Option Value → St → Prop} {q : Rs} (hi : ins y pc = some (.invokestatic idx, ln)) (hc : pcall y idx = some (4, y')) (hs : mmx pc lv st σ = some q) (h : PW X y q.1 q.2.1 q.2.2.1 q.2.2.2 Q) : PW X y pc lv st σ Q := by
  obtain ⟨n, h⟩ := h
  refine ⟨n + 1, ?_⟩
  unfold pw
  simp only [hi, hc, hs]
  exact h
theorem PW.min {X : Scr} {y pc ln idx y' : Nat} {lv : Lv} {st : List Value} {σ : St} {Q : Option Value → St → Prop} {q : Rs} (hi : ins y pc = some (.invokestatic idx, ln)) (hc : pcall y idx = some (5, y')) (hs : mmn pc lv st σ = some q) (h : PW X y q.1 q.2.1 q.2.2.1 q.2.2.2 Q) : PW X y pc lv st σ Q := by
  obtain ⟨n, h⟩ := h
  refine ⟨n + 1, ?_⟩
  unfold pw
  simp only [hi, hc, hs]
  exact h
