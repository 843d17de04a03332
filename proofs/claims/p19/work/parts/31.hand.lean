/-! methods by hand: runs of plain steps, tests, calls -/
def runsL (X : Scr) (oc : Nat) (l : List (Nat × Instr × Nat)) : Nat → Rs → Option Rs
  | 0, q => some q
  | k + 1, q => match pk l q.1 with
    | some (i, _) => bif isSt i then (match stp X oc i q.1 q.2.1 q.2.2.1 q.2.2.2 with
      | some q' => runsL X oc l k q'
      | none => none) else none
    | none => none
theorem PW.runs {X : Scr} {y : Nat} {l : List (Nat × Instr × Nat)} {oc : Nat} (hl : pins.getD y [] = l) (ho : mOC y = oc) {Q : Option Value → St → Prop} : ∀ (k : Nat) {q q' : Rs}, runsL X oc l k q = some q' → PW X y q'.1 q'.2.1 q'.2.2.1 q'.2.2.2 Q → PW X y q.1 q.2.1 q.2.2.1 q.2.2.2 Q := by
  intro k
  induction k with
  | zero => intro q q' h hp; cases h; exact hp
  | succ k ih =>
    intro q q' h hp
    unfold runsL at h
    split at h
    · rename_i i ln hi
      cases hb : isSt i with
      | false => rw [hb, cond_false] at h; cases h
      | true =>
        rw [hb, cond_true] at h
        split at h
        · rename_i q1 hq1
          have hi' : ins y q.1 = some (i, ln) := by unfold ins; rw [hl]; exact hi
          rw [← ho] at hq1
          exact PW.step hi' hb hq1 (ih h hp)
        · cases h
    · cases h
theorem ins_l {y pc : Nat} {l : List (Nat × Instr × Nat)} {q : Instr × Nat} (hl : pins.getD y [] = l) (h : pk l pc = some q) : ins y pc = some q := by unfold ins; rw [hl]; exact h
theorem PW.ifc {X : Scr} {y pc ln t : Nat} {c : ClassFile.Cond} {off : Int} {x : Int32} {lv : Lv} {r : List Value} {σ : St} {Q : Option Value → St → Prop} (hi : ins y pc = some (.ifCond c off, ln)) (ht : tgt pc off = some t) (h1 : cnd c x 0 = true → PW X y t lv r σ Q) (h2 : cnd c x 0 = false → PW X y (pc + 3) lv r σ Q) : PW X y pc lv (.int x :: r) σ Q := by
  refine PW.step (q := (if cnd c x 0 = true then t else pc + 3, lv, r, σ)) hi rfl (by simp only [stp, p1, ht]; rfl) ?_
  cases hc : cnd c x 0 with
  | true => exact h1 hc
  | false => exact h2 hc
theorem PW.icm {X : Scr} {y pc ln t : Nat} {c : ClassFile.Cond} {off : Int} {x z : Int32} {lv : Lv} {r : List Value} {σ : St} {Q : Option Value → St → Prop} (hi : ins y pc = some (.if_icmp c off, ln)) (ht : tgt pc off = some t) (h1 : cnd c x z = true → PW X y t lv r σ Q) (h2 : cnd c x z = false → PW X y (pc + 3) lv r σ Q) : PW X y pc lv (.int z :: .int x :: r) σ Q := by
  refine PW.step (q := (if cnd c x z = true then t else pc + 3, lv, r, σ)) hi rfl (by simp only [stp, p2, ht]; rfl) ?_
  cases hc : cnd c x z with
  | true => exact h1 hc
  | false => exact h2 hc
theorem hw_91 : pins.getD 91 [] = pi_91 := rfl
theorem hw_109 : pins.getD 109 [] = pi_109 := rfl
theorem hw_76 : pins.getD 76 [] = pi_76 := rfl
theorem hw_183 : pins.getD 183 [] = pi_183 := rfl
/-- MapDuty.within -/
theorem pw_within {a b c : Int32} {σ : St} {Q : Option Value → St → Prop} (h : Q (some (.int (if b ≤ a ∧ a ≤ c then 1 else 0))) σ) : PW none 91 0 (ent 91 [.int a, .int b, .int c]) [] σ Q := by
  refine PW.runs hw_91 rfl 2 (q := (0, ent 91 [.int a, .int b, .int c], [], σ)) (q' := (2, [some (.int a), some (.int b), some (.int c)], [.int b, .int a], σ)) rfl ?_
  refine PW.icm (t := 14) (ins_l hw_91 rfl) rfl (fun h1 => ?_) (fun h1 => ?_)
  · have e : ¬ (b ≤ a ∧ a ≤ c) := fun z => by
      simp only [cnd, decide_eq_true_eq] at h1
      exact absurd z.1 (Int32.not_le.mpr h1)
    rw [if_neg e] at h
    refine PW.runs hw_91 rfl 1 (q := (14, [some (.int a), some (.int b), some (.int c)], [], σ)) (q' := (15, [some (.int a), some (.int b), some (.int c)], [.int 0], σ)) rfl ?_
    exact PW.iret (ins_l hw_91 rfl) (Or.inr ⟨rfl, Or.inl rfl⟩) h
  · refine PW.runs hw_91 rfl 2 (q := (5, [some (.int a), some (.int b), some (.int c)], [], σ)) (q' := (7, [some (.int a), some (.int b), some (.int c)], [.int c, .int a], σ)) rfl ?_
    have hb : b ≤ a := by
      simp only [cnd, decide_eq_false_iff_not] at h1
      exact Int32.not_lt.mp h1
    refine PW.icm (t := 14) (ins_l hw_91 rfl) rfl (fun h2 => ?_) (fun h2 => ?_)
    · have e : ¬ (b ≤ a ∧ a ≤ c) := fun z => by
        simp only [cnd, decide_eq_true_eq] at h2
        exact absurd z.2 (Int32.not_le.mpr h2)
      rw [if_neg e] at h
      refine PW.runs hw_91 rfl 1 (q := (14, [some (.int a), some (.int b), some (.int c)], [], σ)) (q' := (15, [some (.int a), some (.int b), some (.int c)], [.int 0], σ)) rfl ?_
      exact PW.iret (ins_l hw_91 rfl) (Or.inr ⟨rfl, Or.inl rfl⟩) h
    · have e : b ≤ a ∧ a ≤ c := ⟨hb, by simp only [cnd, decide_eq_false_iff_not] at h2; exact Int32.not_lt.mp h2⟩
      rw [if_pos e] at h
      refine PW.runs hw_91 rfl 2 (q := (10, [some (.int a), some (.int b), some (.int c)], [], σ)) (q' := (15, [some (.int a), some (.int b), some (.int c)], [.int 1], σ)) rfl ?_
      exact PW.iret (ins_l hw_91 rfl) (Or.inr ⟨rfl, Or.inr rfl⟩) h
