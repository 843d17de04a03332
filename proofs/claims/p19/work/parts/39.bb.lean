/-! the order in which an inspector looks at lines: most duty first, of like ones the least -/
def bef (dt : Nat → Int32) (a b : Nat) : Prop := (dt b).toInt < (dt a).toInt ∨ ((dt a).toInt = (dt b).toInt ∧ a < b)
def LKp (L : Nat) (dt : Nat → Int32) (f : Nat → Nat) : Prop := (∀ i, i < L → f i < L) ∧ (∀ i j, i < j → j < L → bef dt (f i) (f j)) ∧ ∀ l, l < L → ∃ i, i < L ∧ f i = l
def LKd (L : Nat) (dt q : Nat → Int32) : Prop := ∃ f, LKp L dt f ∧ ∀ i, i < L → q i = Int32.ofNat (f i)
theorem bef_as {dt : Nat → Int32} {a b : Nat} (h : bef dt a b) (k : bef dt b a) : False := by
  unfold bef at h k
  omega
theorem LKp_cg {L : Nat} {dt dt' : Nat → Int32} {f : Nat → Nat} (e : ∀ l, l < L → dt' l = dt l) (h : LKp L dt f) : LKp L dt' f := by
  refine ⟨h.1, fun i j hij hj => ?_, h.2.2⟩
  have b := h.2.1 i j hij hj
  unfold bef at b ⊢
  rw [e _ (h.1 i (by omega)), e _ (h.1 j hj)]
  exact b
theorem LK_ins {L : Nat} {dt : Nat → Int32} {f : Nat → Nat} {q : Nat → Int32} {w : Int32} {s : Nat} (h : LKp L dt f) (hs : s ≤ L) (h1 : ∀ j, j < s → q j = Int32.ofNat (f j)) (h2 : ∀ j, s ≤ j → j < L → q (j + 1) = Int32.ofNat (f j) ∧ (dt (f j)).toInt < w.toInt) (h3 : s = 0 ∨ w.toInt ≤ (dt (f (s - 1))).toInt) (hq : q s = Int32.ofNat L) : LKd (L + 1) (fun j => if j = L then w else dt j) q := by
  have da : ∀ l, l < L → (if l = L then w else dt l) = dt l := fun l hl => if_neg (by omega)
  have db : (if L = L then w else dt L) = w := if_pos rfl
  have fa : ∀ i, i < s → (if i < s then f i else if i = s then L else f (i - 1)) = f i := fun i hi => if_pos hi
  have fb : (if s < s then f s else if s = s then L else f (s - 1)) = L := by rw [if_neg (Nat.lt_irrefl s), if_pos rfl]
  have fc : ∀ i, s < i → (if i < s then f i else if i = s then L else f (i - 1)) = f (i - 1) := fun i hi => by rw [if_neg (by omega), if_neg (by omega)]
  refine ⟨fun i => if i < s then f i else if i = s then L else f (i - 1), ⟨fun i hi => ?_, fun i j hij hj => ?_, fun l hl => ?_⟩, fun i hi => ?_⟩
  · show (if i < s then f i else if i = s then L else f (i - 1)) < L + 1
    rcases Nat.lt_trichotomy i s with c | c | c
    · rw [fa i c]; have := h.1 i (by omega); omega
    · rw [c, fb]; omega
    · rw [fc i c]; have := h.1 (i - 1) (by omega); omega
  · show bef (fun j => if j = L then w else dt j) (if i < s then f i else if i = s then L else f (i - 1)) (if j < s then f j else if j = s then L else f (j - 1))
    unfold bef
    dsimp only
    rcases Nat.lt_trichotomy j s with c | c | c
    · rw [fa i (by omega), fa j c, da _ (h.1 i (by omega)), da _ (h.1 j (by omega))]
      exact h.2.1 i j hij (by omega)
    · have iL := h.1 i (by omega)
      have ge : w.toInt ≤ (dt (f i)).toInt := by
        have h3' := h3.resolve_left (by omega)
        by_cases e : i = s - 1
        · rw [e]; exact h3'
        · have b := h.2.1 i (s - 1) (by omega) (by omega)
          unfold bef at b
          omega
      rw [c, fb, fa i (by omega), db, da _ iL]
      omega
    · have jL := h.1 (j - 1) (by omega)
      rw [fc j c, da _ jL]
      rcases Nat.lt_trichotomy i s with d | d | d
      · rw [fa i d, da _ (h.1 i (by omega))]
        exact h.2.1 i (j - 1) (by omega) (by omega)
      · rw [d, fb, db]
        exact Or.inl (h2 (j - 1) (by omega) (by omega)).2
      · rw [fc i d, da _ (h.1 (i - 1) (by omega))]
        exact h.2.1 (i - 1) (j - 1) (by omega) (by omega)
  · by_cases e : l = L
    · exact ⟨s, by omega, by rw [e]; exact fb⟩
    · obtain ⟨i0, i1, i2⟩ := h.2.2 l (by omega)
      by_cases c : i0 < s
      · exact ⟨i0, by omega, (fa i0 c).trans i2⟩
      · exact ⟨i0 + 1, by omega, (fc (i0 + 1) (by omega)).trans i2⟩
  · show q i = Int32.ofNat (if i < s then f i else if i = s then L else f (i - 1))
    rcases Nat.lt_trichotomy i s with c | c | c
    · rw [fa i c]; exact h1 i c
    · rw [c, fb]; exact hq
    · rw [fc i c]
      have e : i - 1 + 1 = i := by omega
      have := (h2 (i - 1) (by omega) (by omega)).1
      rw [e] at this
      exact this
