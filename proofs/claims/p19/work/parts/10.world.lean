/-! what the pure store is in the machine's heap -/
def tr (adr : Nat → Nat) : Value → Value
  | .ref k => .ref (adr k)
  | v => v
theorem tr_cat (adr : Nat → Nat) (v : Value) : (tr adr v).category = v.category := by cases v <;> rfl
theorem tr_sum (adr : Nat → Nat) (st : List Value) : ((st.map (tr adr)).map fun v => v.category).sum = (st.map fun v => v.category).sum := by
  induction st with
  | nil => rfl
  | cons v t ih => simp only [List.map_cons, List.sum_cons, ih, tr_cat]
def wf1 (adr : Nat → Nat) (f : Nat → Int32) (j : Nat) (d : Option Nat) : Value := match d with
  | none => .int (f j)
  | some t => .ref (adr t)
def wc (cI cZ : ClassId) (adr : Nat → Nat) (f : Nat → Int32) (e : LE) : va_E := match e with
  | .inl (z, n) => .inl (bif z then cZ else cI, n, .inl f)
  | .inr (ci, fl) => .inr (ci, fl.mapIdx (wf1 adr f))
def wd (cI cZ : ClassId) (adr : Nat → Nat) (σ : St) : va_W := lay.mapIdx (fun k e => (adr k, wc cI cZ adr (σ k) e))
theorem wd_get {cI cZ : ClassId} {adr : Nat → Nat} {σ : St} {k : Nat} {e : LE} (h : lay[k]? = some e) : (wd cI cZ adr σ)[k]? = some (adr k, wc cI cZ adr (σ k) e) := by
  unfold wd
  rw [List.getElem?_mapIdx, h]
  rfl
theorem sr_self (σ : St) (k : Nat) (f : Nat → Int32) : sr σ k f k = f := by simp [sr]
theorem sr_ne (σ : St) {k j : Nat} (f : Nat → Int32) (h : j ≠ k) : sr σ k f j = σ j := by simp [sr, h]
theorem wd_set {cI cZ : ClassId} {adr : Nat → Nat} {σ : St} {k : Nat} {e : LE} (f : Nat → Int32) (h : lay[k]? = some e) : (wd cI cZ adr σ).set k (adr k, wc cI cZ adr f e) = wd cI cZ adr (sr σ k f) := by
  refine List.ext_getElem? fun j => ?_
  rw [List.getElem?_set]
  by_cases hj : k = j
  · subst hj
    have hl : k < (wd cI cZ adr σ).length := (List.getElem?_eq_some_iff.mp (wd_get (cI := cI) (cZ := cZ) (adr := adr) (σ := σ) h)).1
    rw [if_pos rfl, if_pos hl, wd_get h, sr_self]
  · rw [if_neg hj]
    unfold wd
    rw [List.getElem?_mapIdx, List.getElem?_mapIdx, sr_ne σ f (fun e => hj e.symm)]
theorem wf_set {adr : Nat → Nat} {f : Nat → Int32} {fl : List (Option Nat)} {j : Nat} (v : Int32) (h : fl[j]? = some none) : (fl.mapIdx (wf1 adr f)).set j (.int v) = fl.mapIdx (wf1 adr (upd f j v)) := by
  refine List.ext_getElem? fun i => ?_
  rw [List.getElem?_set]
  by_cases hj : j = i
  · subst hj
    have hl : j < (fl.mapIdx (wf1 adr f)).length := by rw [List.length_mapIdx]; exact (List.getElem?_eq_some_iff.mp h).1
    rw [if_pos rfl, if_pos hl, List.getElem?_mapIdx, h]
    simp [wf1, upd]
  · rw [if_neg hj, List.getElem?_mapIdx, List.getElem?_mapIdx]
    cases fl[i]? with
    | none => rfl
    | some d =>
      cases d with
      | none =>
        have hji : ¬ i = j := fun e => hj e.symm
        simp [wf1, upd, hji]
      | some t => rfl
theorem objF_ok {a ci : Nat} {fl : List (Option Nat)} (h : objF a ci = some fl) : lay[a]? = some (.inr (ci, fl)) := by
  unfold objF at h
  split at h
  · rename_i ci' fl' e
    cases hb : Nat.beq ci ci' with
    | true =>
      rw [hb] at h
      have e1 := Nat.eq_of_beq_eq_true hb
      have e2 : fl' = fl := Option.some.inj h
      rw [e, e1, e2]
    | false => rw [hb] at h; cases h
  · cases h
theorem arrN_ok {z : Bool} {a n : Nat} (h : arrN z a = some n) : lay[a]? = some (.inl (z, n)) := by
  unfold arrN at h
  split at h
  · rename_i z' n' e
    cases hb : z == z' with
    | true =>
      rw [hb] at h
      have e1 : z = z' := by simpa using hb
      have e2 : n' = n := Option.some.inj h
      rw [e, e1, e2]
    | false => rw [hb] at h; cases h
  · cases h
/-- the locals -/
def LR (adr : Nat → Nat) (ls : Array Slot) (nL : Nat) (lv : Lv) : Prop := ls.size = nL ∧ lv_wf ls ∧ lv.length = nL ∧ ∀ (i : Nat) (v : Value), lv[i]? = some (some v) → ls[i]? = some (.val (tr adr v))
def al1 (adr : Nat → Nat) (lv : Lv) (i : Nat) : Option (Nat × Value) := match lv[i]? with
  | some (some v) => some (i, tr adr v)
  | _ => none
def al (adr : Nat → Nat) (lv : Lv) : List (Nat × Value) := (List.range lv.length).filterMap (al1 adr lv)
theorem al_mem {adr : Nat → Nat} {lv : Lv} {i : Nat} {v : Value} (h : lv[i]? = some (some v)) : (i, tr adr v) ∈ al adr lv := by
  refine List.mem_filterMap.mpr ⟨i, List.mem_range.mpr (List.getElem?_eq_some_iff.mp h).1, ?_⟩
  simp [al1, h]
theorem LR.has {adr : Nat → Nat} {ls : Array Slot} {nL : Nat} {lv : Lv} (h : LR adr ls nL lv) : lv_has ls nL (al adr lv) := by
  refine ⟨h.1, h.2.1, fun q hq => ?_⟩
  obtain ⟨i, -, hi⟩ := List.mem_filterMap.mp hq
  unfold al1 at hi
  split at hi
  · rename_i v hv
    cases hi
    exact h.2.2.2 _ _ hv
  · cases hi
theorem sl1_len (lv : Lv) (i : Nat) (v : Value) : (sl1 lv i v).length = lv.length := by
  cases i with
  | zero => simp [sl1]
  | succ j =>
    unfold sl1
    rw [List.length_set]
    cases hb : isL lv[j]? with
    | true => rw [cond_true, List.length_set]
    | false => rw [cond_false]
theorem sl1_spec {lv : Lv} {i : Nat} {v : Value} {j : Nat} {w : Value} (h : (sl1 lv i v)[j]? = some (some w)) : (j = i ∧ w = v) ∨ (j ≠ i ∧ lv[j]? = some (some w) ∧ ¬ (j + 1 = i ∧ w.category = 2)) := by
  cases i with
  | zero =>
    simp only [sl1, List.getElem?_set] at h
    by_cases hj : 0 = j
    · subst hj
      simp only [if_true] at h
      split at h
      · exact Or.inl ⟨rfl, by simpa using h.symm⟩
      · cases h
    · rw [if_neg hj] at h
      exact Or.inr ⟨fun e => hj e.symm, h, fun e => by omega⟩
  | succ k =>
    simp only [sl1, List.getElem?_set] at h
    by_cases hj : k + 1 = j
    · subst hj
      simp only [if_true] at h
      split at h
      · exact Or.inl ⟨rfl, by simpa using h.symm⟩
      · cases h
    · rw [if_neg hj] at h
      refine Or.inr ⟨fun e => hj e.symm, ?_⟩
      cases hb : isL lv[k]? with
      | true =>
        rw [hb] at h
        simp only [cond_true, List.getElem?_set] at h
        by_cases hk : k = j
        · subst hk
          simp only [if_true] at h
          split at h
          · cases h
          · cases h
        · rw [if_neg hk] at h
          exact ⟨h, fun e => hk (by omega)⟩
      | false =>
        rw [hb] at h
        simp only [cond_false] at h
        refine ⟨h, fun e => ?_⟩
        have e1 : j = k := by omega
        rw [e1] at h
        rw [h] at hb
        have e2 := e.2
        cases w <;> first | (simp [isL] at hb; done) | (simp [Value.category] at e2; done)
theorem LR.st1 {adr : Nat → Nat} {ls : Array Slot} {nL : Nat} {lv : Lv} {i : Nat} {v : Value} (hlen : lv.length = nL) (h : lv_has ls nL ((i, tr adr v) :: (al adr lv).filter (fun q => !(q.1 == i) && !(q.1 + 1 == i && q.2.category == 2)))) : LR adr ls nL (sl1 lv i v) := by
  refine ⟨h.1, h.2.1, by rw [sl1_len]; exact hlen, fun j w hj => ?_⟩
  rcases sl1_spec hj with ⟨rfl, rfl⟩ | ⟨h1, h2, h3⟩
  · exact h.2.2 _ List.mem_cons_self
  · refine h.2.2 (j, tr adr w) (List.mem_cons_of_mem _ (List.mem_filter.mpr ⟨al_mem h2, ?_⟩))
    have h4 : ¬ (j + 1 = i ∧ (tr adr w).category = 2) := by rw [tr_cat]; exact h3
    simp only [Bool.and_eq_true, Bool.not_eq_true', beq_eq_false_iff_ne, ne_eq, Bool.and_eq_false_iff]
    refine ⟨h1, ?_⟩
    by_cases e : j + 1 = i
    · exact Or.inr (fun e2 => h4 ⟨e, e2⟩)
    · exact Or.inl e
theorem LR.st2 {adr : Nat → Nat} {ls : Array Slot} {nL : Nat} {lv : Lv} {i : Nat} {v : Value} (hlen : lv.length = nL) (h : lv_has ls nL ((i, tr adr v) :: (al adr lv).filter (fun q => !(q.1 == i) && (!(q.1 == i + 1) && !(q.1 + 1 == i && q.2.category == 2))))) : LR adr ls nL (sl2 lv i v) := by
  refine ⟨h.1, h.2.1, by unfold sl2; rw [List.length_set, sl1_len]; exact hlen, fun j w hj => ?_⟩
  unfold sl2 at hj
  rw [List.getElem?_set] at hj
  by_cases e0 : i + 1 = j
  · rw [if_pos e0] at hj
    split at hj <;> cases hj
  rw [if_neg e0] at hj
  rcases sl1_spec hj with ⟨rfl, rfl⟩ | ⟨h1, h2, h3⟩
  · exact h.2.2 _ List.mem_cons_self
  · refine h.2.2 (j, tr adr w) (List.mem_cons_of_mem _ (List.mem_filter.mpr ⟨al_mem h2, ?_⟩))
    have h4 : ¬ (j + 1 = i ∧ (tr adr w).category = 2) := by rw [tr_cat]; exact h3
    simp only [Bool.and_eq_true, Bool.not_eq_true', beq_eq_false_iff_ne, ne_eq, Bool.and_eq_false_iff]
    refine ⟨h1, fun e => e0 e.symm, ?_⟩
    by_cases e : j + 1 = i
    · exact Or.inr (fun e2 => h4 ⟨e, e2⟩)
    · exact Or.inl e
theorem lva_len (adr : Nat → Nat) (vs : List Value) : (lg_sl (vs.map (tr adr))).length = (lva vs).length := by
  induction vs with
  | nil => rfl
  | cons v t ih =>
    simp only [lg_sl, List.map_cons, List.flatMap_cons, List.length_append, lva] at ih ⊢
    rw [ih, tr_cat]
    split <;> simp <;> omega
theorem lva_args (adr : Nat → Nat) (vs : List Value) : ∀ (k i : Nat) (v : Value), (lva vs)[i]? = some (some v) → (k + i, tr adr v) ∈ lv_args k (vs.map (tr adr)) := by
  induction vs with
  | nil => intro k i v h; simp [lva] at h
  | cons w t ih =>
    intro k i v h
    simp only [List.map_cons, lv_args, tr_cat]
    unfold lva at h
    by_cases hc : w.category = 2
    · rw [if_pos hc] at h
      rw [if_pos hc]
      match i, h with
      | 0, h =>
        have e : w = v := by simpa using h
        rw [e]; exact List.mem_cons_self
      | 1, h => simp at h
      | i + 2, h =>
        have h2 := ih (k + 2) i v (by simpa using h)
        rw [show k + 2 + i = k + (i + 2) by omega] at h2
        exact List.mem_cons_of_mem _ h2
    · rw [if_neg hc] at h
      rw [if_neg hc]
      match i, h with
      | 0, h =>
        have e : w = v := by simpa using h
        rw [e]; exact List.mem_cons_self
      | i + 1, h =>
        have h2 := ih (k + 1) i v (by simpa using h)
        rw [show k + 1 + i = k + (i + 1) by omega] at h2
        exact List.mem_cons_of_mem _ h2
theorem LR.entry {adr : Nat → Nat} {y : Nat} {vs : List Value} {ls : Array Slot} (hl : (lva vs).length ≤ mML y) (h : lv_has ls (mML y) (lv_args 0 (vs.map (tr adr)))) : LR adr ls (mML y) (ent y vs) := by
  refine ⟨h.1, h.2.1, by simp [ent]; omega, fun i v hi => ?_⟩
  unfold ent at hi
  rcases Nat.lt_or_ge i (lva vs).length with q | q
  · rw [List.getElem?_append_left q] at hi
    have h2 := h.2.2 _ (lva_args adr vs 0 i v hi)
    simpa using h2
  · rw [List.getElem?_append_right q] at hi
    have := List.eq_of_mem_replicate (List.mem_of_getElem? hi)
    cases this
/-- inversions -/
theorem gi_ok {lv : Lv} {k : Nat} {f : Int32 → Option Rs} {q : Rs} (h : gi lv k f = some q) : ∃ x, lv[k]? = some (some (.int x)) ∧ f x = some q := by
  unfold gi at h
  split at h
  · rename_i x e; exact ⟨x, e, h⟩
  · cases h
theorem gl_ok {lv : Lv} {k : Nat} {f : Int64 → Option Rs} {q : Rs} (h : gl lv k f = some q) : ∃ x, lv[k]? = some (some (.long x)) ∧ f x = some q := by
  unfold gl at h
  split at h
  · rename_i x e; exact ⟨x, e, h⟩
  · cases h
theorem ga_ok {lv : Lv} {k : Nat} {f : Nat → Option Rs} {q : Rs} (h : ga lv k f = some q) : ∃ x, lv[k]? = some (some (.ref x)) ∧ f x = some q := by
  unfold ga at h
  split at h
  · rename_i x e; exact ⟨x, e, h⟩
  · cases h
theorem p1_ok {st : List Value} {f : Int32 → List Value → Option Rs} {q : Rs} (h : p1 st f = some q) : ∃ x r, st = .int x :: r ∧ f x r = some q := by
  unfold p1 at h
  split at h
  · rename_i x r; exact ⟨x, r, rfl, h⟩
  · cases h
theorem p2_ok {st : List Value} {f : Int32 → Int32 → List Value → Option Rs} {q : Rs} (h : p2 st f = some q) : ∃ x y r, st = .int y :: .int x :: r ∧ f x y r = some q := by
  unfold p2 at h
  split at h
  · rename_i y x r; exact ⟨x, y, r, rfl, h⟩
  · cases h
theorem q1_ok {st : List Value} {f : Int64 → List Value → Option Rs} {q : Rs} (h : q1 st f = some q) : ∃ x r, st = .long x :: r ∧ f x r = some q := by
  unfold q1 at h
  split at h
  · rename_i x r; exact ⟨x, r, rfl, h⟩
  · cases h
theorem q2_ok {st : List Value} {f : Int64 → Int64 → List Value → Option Rs} {q : Rs} (h : q2 st f = some q) : ∃ x y r, st = .long y :: .long x :: r ∧ f x y r = some q := by
  unfold q2 at h
  split at h
  · rename_i y x r; exact ⟨x, y, r, rfl, h⟩
  · cases h
theorem pr_ok {st : List Value} {f : Nat → List Value → Option Rs} {q : Rs} (h : pr st f = some q) : ∃ a r, st = .ref a :: r ∧ f a r = some q := by
  unfold pr at h
  split at h
  · rename_i a r; exact ⟨a, r, rfl, h⟩
  · cases h
theorem tgt_ok {pc t : Nat} {off : Int} (h : tgt pc off = some t) : (pc : Int) + off = (t : Int) := by
  unfold tgt at h
  split at h
  · rename_i h0
    have e := Option.some.inj h
    rw [← e]
    omega
  · cases h
theorem if_ok {c : Prop} [Decidable c] {α : Type} {x : Option α} {q : α} (h : (if c then x else none) = some q) : c ∧ x = some q := by
  split at h
  · rename_i hc; exact ⟨hc, h⟩
  · cases h
theorem ifn_ok {c : Prop} [Decidable c] {α : Type} {x : Option α} {q : α} (h : (if c then none else x) = some q) : ¬ c ∧ x = some q := by
  split at h
  · cases h
  · rename_i hc; exact ⟨hc, h⟩
