/-! ways: relaxing so often as there are places leaves nothing to relax -/
section Graph
variable (P Ln b : Nat) (ex ey : Nat → Nat) (hb : Nat → Prop)
def Adj (x y : Nat) : Prop := ∃ l, l < Ln ∧ hb l ∧ ((ex l = x ∧ ey l = y) ∨ (ex l = y ∧ ey l = x))
def upI (D : Nat → Int) (x : Nat) (v : Int) : Nat → Int := fun a => if a = x then v else D a
def rx (D : Nat → Int) (x y : Nat) : Nat → Int := upI D x (if D y + 1 < D x then D y + 1 else D x)
def FARI : Int := 1000000
def Jn (D : Nat → Int) : Prop := (∀ v, v < P → 0 ≤ D v ∧ D v ≤ FARI) ∧ D b = 0 ∧ ∀ v, v < P → v ≠ b → D v < FARI → ∃ u, u < P ∧ Adj Ln ex ey hb v u ∧ D u + 1 ≤ D v
def In (k : Int) (D : Nat → Int) : Prop := ∀ x y, x < P → y < P → Adj Ln ex ey hb x y → D x ≤ k - 1 → D y ≤ D x + 1
variable {P Ln b ex ey hb}
theorem rx_le (D : Nat → Int) (x y v : Nat) : rx D x y v ≤ D v := by
  unfold rx upI
  split
  · rename_i e
    subst e
    split <;> omega
  · exact Int.le_refl _
theorem rx_ne {D : Nat → Int} {x y v : Nat} (h : v ≠ x) : rx D x y v = D v := by unfold rx upI; rw [if_neg h]
theorem rx_self (D : Nat → Int) (x y : Nat) : rx D x y x = if D y + 1 < D x then D y + 1 else D x := by unfold rx upI; rw [if_pos rfl]
theorem Jn.rlx {D : Nat → Int} (h : Jn P Ln b ex ey hb D) {x y : Nat} (hx : x < P) (hy : y < P) (ha : Adj Ln ex ey hb x y) : Jn P Ln b ex ey hb (rx D x y) := by
  obtain ⟨h1, h2, h3⟩ := h
  have hx1 := h1 x hx
  have hy1 := h1 y hy
  refine ⟨fun v hv => ?_, ?_, fun v hv hvb hf => ?_⟩
  · by_cases e : v = x
    · subst e; rw [rx_self]; split <;> omega
    · rw [rx_ne e]; exact h1 v hv
  · by_cases e : b = x
    · subst e; rw [rx_self, if_neg (by omega)]; exact h2
    · rw [rx_ne e]; exact h2
  · by_cases e : v = x
    · subst e
      rw [rx_self] at hf ⊢
      by_cases c : D y + 1 < D v
      · rw [if_pos c]
        have hne : y ≠ v := fun e => by rw [e] at c; omega
        exact ⟨y, hy, ha, by rw [rx_ne hne]; omega⟩
      · rw [if_neg c] at hf ⊢
        obtain ⟨u, u1, u2, u3⟩ := h3 v hv hvb hf
        exact ⟨u, u1, u2, by have := rx_le D v y u; omega⟩
    · rw [rx_ne e] at hf ⊢
      obtain ⟨u, u1, u2, u3⟩ := h3 v hv hvb hf
      exact ⟨u, u1, u2, by have := rx_le D x y u; omega⟩
/-- within a round -/
def Rd (P : Nat) (ex ey : Nat → Nat) (hb : Nat → Prop) (k : Int) (D0 : Nat → Int) (l : Nat) (D : Nat → Int) : Prop := (∀ v, v < P → D v ≤ D0 v) ∧ (∀ v, v < P → D v ≤ k → D v = D0 v) ∧ ∀ l', l' < l → hb l' → (D (ex l') ≤ k → D (ey l') ≤ D (ex l') + 1) ∧ (D (ey l') ≤ k → D (ex l') ≤ D (ey l') + 1)
theorem Rd.rlx {k : Int} {D0 D : Nat → Int} {l : Nat} (h : Rd P ex ey hb k D0 l D) (hE : ∀ l, l < Ln → ex l < P ∧ ey l < P) (hl : l ≤ Ln) (hI : In P Ln ex ey hb k D0) {x y : Nat} (hx : x < P) (hy : y < P) (ha : Adj Ln ex ey hb x y) : Rd P ex ey hb k D0 l (rx D x y) := by
  obtain ⟨h1, h2, h3⟩ := h
  have ha' : Adj Ln ex ey hb y x := by
    obtain ⟨l, a1, a2, a3⟩ := ha
    exact ⟨l, a1, a2, a3.symm⟩
  have frz : ∀ v, v < P → rx D x y v ≤ k → rx D x y v = D0 v := by
    intro v hv hk
    by_cases e : v = x
    · subst e
      rw [rx_self] at hk ⊢
      by_cases c : D y + 1 < D v
      · exfalso
        rw [if_pos c] at hk
        have e1 := h2 y hy (by omega)
        have e2 := hI y v hy hv ha' (by omega)
        have e3 := h1 v hv
        omega
      · rw [if_neg c] at hk ⊢
        exact h2 v hv hk
    · rw [rx_ne e] at hk ⊢
      exact h2 v hv hk
  refine ⟨fun v hv => Int.le_trans (rx_le D x y v) (h1 v hv), frz, fun l' hl' hb' => ?_⟩
  have hl2 := hE l' (by omega)
  have g := h3 l' hl' hb'
  have key : ∀ p q, p < P → q < P → (D p ≤ k → D q ≤ D p + 1) → (rx D x y p ≤ k → rx D x y q ≤ rx D x y p + 1) := by
    intro p q hp hq hg hk
    have f1 := frz p hp hk
    have f2 := rx_le D x y p
    have f3 := h1 p hp
    have f4 : D p = rx D x y p := by omega
    have f5 := hg (by omega)
    have f6 := rx_le D x y q
    omega
  exact ⟨key _ _ hl2.1 hl2.2 g.1, key _ _ hl2.2 hl2.1 g.2⟩
theorem Rd.line {k : Int} {D0 D : Nat → Int} {l : Nat} (h : Rd P ex ey hb k D0 l D) (hE : ∀ l, l < Ln → ex l < P ∧ ey l < P) (hl : l < Ln) (hI : In P Ln ex ey hb k D0) (hbl : hb l) : Rd P ex ey hb k D0 (l + 1) (rx (rx D (ex l) (ey l)) (ey l) (ex l)) := by
  have hl2 := hE l hl
  have ha : Adj Ln ex ey hb (ex l) (ey l) := ⟨l, hl, hbl, Or.inl ⟨rfl, rfl⟩⟩
  have ha' : Adj Ln ex ey hb (ey l) (ex l) := ⟨l, hl, hbl, Or.inr ⟨rfl, rfl⟩⟩
  have r1 := h.rlx hE (Nat.le_of_lt hl) hI hl2.1 hl2.2 ha
  have r2 := r1.rlx hE (Nat.le_of_lt hl) hI hl2.2 hl2.1 ha'
  refine ⟨r2.1, r2.2.1, fun l' hl' hb' => ?_⟩
  rcases Nat.lt_or_ge l' l with q | q
  · exact r2.2.2 l' q hb'
  · have e : l' = l := by omega
    subst e
    generalize ex l' = x at *
    generalize ey l' = y at *
    by_cases e : x = y
    · subst e; constructor <;> intro _ <;> omega
    · have s1 := rx_self D x y
      have s2 := rx_self (rx D x y) y x
      have n1 : rx (rx D x y) y x x = rx D x y x := rx_ne e
      have n2 : rx D x y y = D y := rx_ne (fun z => e z.symm)
      rw [n1, s2, n2]
      split at s1 <;> split <;> constructor <;> intro _ <;> omega
theorem Rd.skip {k : Int} {D0 D : Nat → Int} {l : Nat} (h : Rd P ex ey hb k D0 l D) (hbl : ¬ hb l) : Rd P ex ey hb k D0 (l + 1) D := by
  refine ⟨h.1, h.2.1, fun l' hl' hb' => ?_⟩
  rcases Nat.lt_or_ge l' l with q | q
  · exact h.2.2 l' q hb'
  · have e : l' = l := by omega
    rw [e] at hb'
    exact absurd hb' hbl
theorem Rd.start {k : Int} {D : Nat → Int} : Rd P ex ey hb k D 0 D := ⟨fun _ _ => Int.le_refl _, fun _ _ _ => rfl, fun _ h => absurd h (Nat.not_lt_zero _)⟩
theorem Rd.done {k : Int} {D0 D : Nat → Int} (h : Rd P ex ey hb k D0 Ln D) : In P Ln ex ey hb (k + 1) D := by
  intro x y hx hy ha hk
  obtain ⟨l, a1, a2, a3⟩ := ha
  have g := h.2.2 l a1 a2
  rcases a3 with ⟨e1, e2⟩ | ⟨e1, e2⟩
  · rw [e1, e2] at g; exact g.1 (by omega)
  · rw [e1, e2] at g; exact g.2 (by omega)
theorem php : ∀ (n : Nat) (f : Nat → Nat), (∀ i, i ≤ n → f i < n) → ∃ i j, i < j ∧ j ≤ n ∧ f i = f j
  | 0, f, h => absurd (h 0 (Nat.le_refl 0)) (Nat.not_lt_zero _)
  | n + 1, f, h => by
    by_cases c : ∃ i, i ≤ n ∧ f i = f (n + 1)
    · obtain ⟨i, h1, h2⟩ := c
      exact ⟨i, n + 1, by omega, Nat.le_refl _, h2⟩
    · have hc : ∀ i, i ≤ n → f i ≠ f (n + 1) := fun i hi e => c ⟨i, hi, e⟩
      obtain ⟨i, j, h1, h2, h3⟩ := php n (fun i => if f i < f (n + 1) then f i else f i - 1) (fun i hi => by
        have a := h i (by omega)
        have a2 := h (n + 1) (Nat.le_refl _)
        have a3 := hc i hi
        split <;> omega)
      refine ⟨i, j, h1, by omega, ?_⟩
      have b1 := hc i (by omega)
      have b2 := hc j h2
      split at h3 <;> split at h3 <;> omega
/-- behind all rounds -/
theorem far_good {D : Nat → Int} (hJ : Jn P Ln b ex ey hb D) (hI : In P Ln ex ey hb (P : Int) D) (hP : (P : Int) < FARI) : (∀ v, v < P → D v < FARI → D v ≤ (P : Int) - 1) ∧ ∀ v, v < P → v ≠ b → D v < FARI → 1 ≤ D v ∧ ∃ u, u < P ∧ Adj Ln ex ey hb v u ∧ D u = D v - 1 := by
  obtain ⟨h1, h2, h3⟩ := hJ
  have adjS : ∀ {x y}, Adj Ln ex ey hb x y → Adj Ln ex ey hb y x := fun ⟨l, a1, a2, a3⟩ => ⟨l, a1, a2, a3.symm⟩
  have desc : ∀ v, v < P → 1 ≤ D v → D v ≤ (P : Int) → ∃ u, u < P ∧ Adj Ln ex ey hb v u ∧ D u = D v - 1 := by
    intro v hv h4 h5
    have hne : v ≠ b := fun e => by rw [e, h2] at h4; omega
    obtain ⟨u, u1, u2, u3⟩ := h3 v hv hne (by omega)
    have := hI u v u1 hv (adjS u2) (by omega)
    exact ⟨u, u1, u2, by omega⟩
  have big : ∀ (n : Nat) (v : Nat), v < P → (P : Int) ≤ D v → D v < FARI → D v ≤ (P : Int) + n → ∃ w, w < P ∧ D w = (P : Int) := by
    intro n
    induction n with
    | zero => intro v hv a1 a2 a3; exact ⟨v, hv, by omega⟩
    | succ n ih =>
      intro v hv a1 a2 a3
      by_cases e : D v = (P : Int)
      · exact ⟨v, hv, e⟩
      · have hne : v ≠ b := fun e => by rw [e, h2] at a1; omega
        obtain ⟨u, u1, u2, u3⟩ := h3 v hv hne a2
        by_cases c : D u ≤ (P : Int) - 1
        · have := hI u v u1 hv (adjS u2) c; omega
        · exact ih u u1 (by omega) (by omega) (by omega)
  have fin : ∀ v, v < P → D v < FARI → D v ≤ (P : Int) - 1 := by
    intro v hv hf
    by_cases c : D v ≤ (P : Int) - 1
    · exact c
    · exfalso
      obtain ⟨w, w1, w2⟩ := big (D v - P).toNat v hv (by omega) hf (by omega)
      have lev : ∀ j : Nat, j ≤ P → ∃ w, w < P ∧ D w = (P : Int) - j := by
        intro j
        induction j with
        | zero => intro _; exact ⟨w, w1, by omega⟩
        | succ j ih =>
          intro hj
          obtain ⟨v, v1, v2⟩ := ih (by omega)
          obtain ⟨u, u1, -, u3⟩ := desc v v1 (by omega) (by omega)
          exact ⟨u, u1, by omega⟩
      have ch : ∀ j : Nat, ∃ w, j ≤ P → w < P ∧ D w = (P : Int) - j := fun j => by
        by_cases hj : j ≤ P
        · obtain ⟨w, a⟩ := lev j hj; exact ⟨w, fun _ => a⟩
        · exact ⟨0, fun z => absurd z hj⟩
      obtain ⟨i, j, c1, c2, c3⟩ := php P (fun j => (ch j).choose) (fun i hi => ((ch i).choose_spec hi).1)
      have e1 := ((ch i).choose_spec (by omega)).2
      have e2 := ((ch j).choose_spec c2).2
      rw [c3, e2] at e1
      omega
  refine ⟨fin, fun v hv hne hf => ?_⟩
  have h5 := fin v hv hf
  obtain ⟨u, u1, u2, u3⟩ := h3 v hv hne hf
  have h6 := h1 u u1
  have := hI u v u1 hv (adjS u2) (by omega)
  exact ⟨by omega, u, u1, u2, by omega⟩
end Graph
