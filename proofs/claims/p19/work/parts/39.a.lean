/-! the reading of a text, pure -/
def rn (p : Int32 → Bool) (T : Nat → Int32) : Nat → Nat → Nat
  | 0, q => q
  | d + 1, q => bif p (T q) then rn p T d (q + 1) else q
theorem rn_step {p : Int32 → Bool} {T : Nat → Int32} {q : Nat} (hT : ∀ i, 240 ≤ i → p (T i) = false) : rn p T (240 - q) q = bif p (T q) then rn p T (240 - (q + 1)) (q + 1) else q := by
  by_cases c : q < 240
  · obtain ⟨d, hd⟩ : ∃ d, 240 - q = d + 1 := ⟨239 - q, by omega⟩
    have e : 240 - (q + 1) = d := by omega
    rw [hd, e]
    rfl
  · have e : 240 - q = 0 := by omega
    rw [e, hT q (by omega)]
    rfl
theorem rn_ge (p : Int32 → Bool) (T : Nat → Int32) : ∀ d q, q ≤ rn p T d q
  | 0, q => Nat.le_refl q
  | d + 1, q => by
    unfold rn
    cases p (T q) with
    | true => have := rn_ge p T d (q + 1); rw [cond_true]; omega
    | false => rw [cond_false]; omega
theorem rn_le (p : Int32 → Bool) (T : Nat → Int32) : ∀ d q, rn p T d q ≤ q + d
  | 0, q => Nat.le_refl q
  | d + 1, q => by
    unfold rn
    cases p (T q) with
    | true => have := rn_le p T d (q + 1); rw [cond_true]; omega
    | false => rw [cond_false]; omega
theorem rn_stop {p : Int32 → Bool} {T : Nat → Int32} (hT : ∀ i, 240 ≤ i → p (T i) = false) : ∀ d q, 240 ≤ q + d → p (T (rn p T d q)) = false
  | 0, q, h => hT q h
  | d + 1, q, h => by
    unfold rn
    cases e : p (T q) with
    | true => rw [cond_true]; exact rn_stop hT d (q + 1) (by omega)
    | false => rw [cond_false]; exact e
def bl (x : Int32) : Bool := decide (x = 32)
def dg (x : Int32) : Bool := decide (48 ≤ x ∧ x ≤ 57)
def HT (T : Nat → Int32) : Prop := ∀ i, 240 ≤ i → T i = -1
theorem HT.bl {T : Nat → Int32} (h : HT T) : ∀ i, 240 ≤ i → bl (T i) = false := fun i hi => by rw [h i hi]; decide
theorem HT.dg {T : Nat → Int32} (h : HT T) : ∀ i, 240 ≤ i → dg (T i) = false := fun i hi => by rw [h i hi]; decide
def sk (T : Nat → Int32) (q : Nat) : Nat := rn bl T (240 - q) q
def de (T : Nat → Int32) (q : Nat) : Nat := rn dg T (240 - q) q
theorem sk_T {T : Nat → Int32} {q : Nat} (h : HT T) (e : T q = 32) : sk T q = sk T (q + 1) := by
  unfold sk
  rw [rn_step h.bl]
  have : bl (T q) = true := by rw [e]; decide
  rw [this, cond_true]
theorem sk_F {T : Nat → Int32} {q : Nat} (h : HT T) (e : ¬ T q = 32) : sk T q = q := by
  unfold sk
  rw [rn_step h.bl]
  have : bl (T q) = false := by unfold bl; exact decide_eq_false e
  rw [this, cond_false]
theorem de_T {T : Nat → Int32} {q : Nat} (h : HT T) (e : dg (T q) = true) : de T q = de T (q + 1) := by
  unfold de
  rw [rn_step h.dg, e, cond_true]
theorem de_F {T : Nat → Int32} {q : Nat} (h : HT T) (e : dg (T q) = false) : de T q = q := by
  unfold de
  rw [rn_step h.dg, e, cond_false]
theorem sk_ge (T : Nat → Int32) (q : Nat) : q ≤ sk T q := rn_ge _ _ _ _
theorem de_ge (T : Nat → Int32) (q : Nat) : q ≤ de T q := rn_ge _ _ _ _
theorem sk_le {T : Nat → Int32} {q : Nat} (h : q ≤ 240) : sk T q ≤ 240 := by have := rn_le bl T (240 - q) q; unfold sk; omega
theorem de_le {T : Nat → Int32} {q : Nat} (h : q ≤ 240) : de T q ≤ 240 := by have := rn_le dg T (240 - q) q; unfold de; omega
theorem sk_ne {T : Nat → Int32} (h : HT T) {q : Nat} : ¬ T (sk T q) = 32 := by
  have := rn_stop h.bl (240 - q) q (by omega)
  unfold bl at this
  exact of_decide_eq_false this
theorem sk_sk {T : Nat → Int32} (h : HT T) {q : Nat} : sk T (sk T q) = sk T q := sk_F h (sk_ne h)
/-- the value of k figures from q on -/
def vl (T : Nat → Int32) (q : Nat) : Nat → Int32
  | 0 => 0
  | k + 1 => ((vl T q k * 10) + T (q + k)) - 48
/-- a number: fault (0: none), its place, its value, where it ends -/
def nm (T : Nat → Int32) (a b : Int32) (q : Nat) : Nat × Nat × Int32 × Nat :=
  bif dg (T (sk T q)) then
    (if 3 < de T (sk T q) - sk T q ∨ ¬ (a ≤ vl T (sk T q) (min (de T (sk T q) - sk T q) 3) ∧ vl T (sk T q) (min (de T (sk T q) - sk T q) 3) ≤ b) then 2 else 0, sk T q, vl T (sk T q) (min (de T (sk T q) - sk T q) 3), de T (sk T q))
  else (1, sk T q, 0, sk T q)
theorem nm_q {T : Nat → Int32} {a b : Int32} {q : Nat} (h : q ≤ 240) : (nm T a b q).2.2.2 ≤ 240 ∧ (nm T a b q).2.1 ≤ 240 ∧ q ≤ (nm T a b q).2.2.2 ∧ (nm T a b q).2.1 ≤ (nm T a b q).2.2.2 := by
  have h1 := sk_le (T := T) h
  have h2 := de_le (T := T) h1
  have h3 := sk_ge T q
  have h4 := de_ge T (sk T q)
  unfold nm
  cases dg (T (sk T q)) with
  | true => rw [cond_true]; exact ⟨h2, h1, by dsimp only; omega, h4⟩
  | false => rw [cond_false]; exact ⟨h1, h1, h3, Nat.le_refl _⟩
theorem nm_f {T : Nat → Int32} {a b : Int32} {q : Nat} : (nm T a b q).1 ≤ 2 := by
  unfold nm
  cases dg (T (sk T q)) with
  | true => rw [cond_true]; dsimp only; split <;> omega
  | false => rw [cond_false]; dsimp only; omega
theorem nm_v {T : Nat → Int32} {a b : Int32} {q : Nat} (h : (nm T a b q).1 = 0) : a ≤ (nm T a b q).2.2.1 ∧ (nm T a b q).2.2.1 ≤ b := by
  unfold nm at h ⊢
  cases e : dg (T (sk T q)) with
  | true =>
    rw [e, cond_true] at h
    dsimp only at h
    rw [cond_true]
    split at h
    · cases h
    · rename_i h1
      exact Classical.not_not.mp fun z => h1 (Or.inr z)
  | false => rw [e, cond_false] at h; cases h
/-! what is read: places, lines, maps, inspectors; the land; the rows -/
abbrev PS : Type := (Nat → Nat) × Int32 × (Nat → Nat → Int32)
def cu (c : Nat → Nat) (k v : Nat) : Nat → Nat := fun j => if j = k then v else c j
def jn (r : Nat → Nat → Int32) (a b : Int32) : Nat → Bool
  | 0 => false
  | k + 1 => jn r a b k || (decide (r 0 k = a ∧ r 1 k = b) || decide (r 0 k = b ∧ r 1 k = a))
abbrev Out : Type := Nat × Nat × PS
def ec (T : Nat → Int32) (q : Nat) (P : PS) : Out := if T (sk T q) = 59 then (0, sk T q + 1, P) else (1, sk T q, P)
def pN (P : PS) (v : Int32) : PS := (cu P.1 0 v.toInt.toNat, P.2)
def pL (P : PS) (a b t w : Int32) : PS := (cu P.1 1 (P.1 1 + 1), P.2.1 ||| (t <<< (Int32.ofNat (P.1 1) &&& 31)), s2 (s2 (s2 P.2.2 0 (P.1 1) a) 1 (P.1 1) b) 2 (P.1 1) w)
def pM (P : PS) (k s : Int32) : PS := (cu P.1 2 (P.1 2 + 1), P.2.1, s2 (s2 P.2.2 3 (P.1 2) k) 4 (P.1 2) s)
def pJ (P : PS) (c : Int32) : PS := (cu P.1 3 (P.1 3 + 1), P.2.1, s2 P.2.2 5 (P.1 3) c)
/-- lines that there aren't -/
def bad (P : PS) (s : Int32) : Bool := decide (¬ s &&& (((1 <<< (Int32.ofNat (P.1 1) &&& 31)) - 1) ^^^ (-1)) = 0)
def cN (T : Nat → Int32) (P : PS) (q : Nat) : Out :=
  if (nm T 2 8 q).1 = 0 then ec T (nm T 2 8 q).2.2.2 (pN P (nm T 2 8 q).2.2.1) else ((nm T 2 8 q).1, (nm T 2 8 q).2.1, P)
def cL4 (T : Nat → Int32) (P : PS) (a b t : Int32) (q : Nat) : Out :=
  if (nm T 0 50 q).1 = 0 then ec T (nm T 0 50 q).2.2.2 (pL P a b t (nm T 0 50 q).2.2.1) else ((nm T 0 50 q).1, (nm T 0 50 q).2.1, P)
def cL3 (T : Nat → Int32) (P : PS) (a b : Int32) (q : Nat) : Out :=
  if (nm T 0 1 q).1 = 0 then cL4 T P a b (nm T 0 1 q).2.2.1 (nm T 0 1 q).2.2.2 else ((nm T 0 1 q).1, (nm T 0 1 q).2.1, P)
def cL2 (T : Nat → Int32) (P : PS) (a : Int32) (q : Nat) : Out :=
  if (nm T 0 (Int32.ofNat (P.1 0) - 1) q).1 = 0 then
    if a = (nm T 0 (Int32.ofNat (P.1 0) - 1) q).2.2.1 ∨ jn P.2.2 a (nm T 0 (Int32.ofNat (P.1 0) - 1) q).2.2.1 (P.1 1) = true then (4, (nm T 0 (Int32.ofNat (P.1 0) - 1) q).2.1, P)
    else cL3 T P a (nm T 0 (Int32.ofNat (P.1 0) - 1) q).2.2.1 (nm T 0 (Int32.ofNat (P.1 0) - 1) q).2.2.2
  else ((nm T 0 (Int32.ofNat (P.1 0) - 1) q).1, (nm T 0 (Int32.ofNat (P.1 0) - 1) q).2.1, P)
def cL (T : Nat → Int32) (P : PS) (q : Nat) : Out :=
  if (nm T 0 (Int32.ofNat (P.1 0) - 1) q).1 = 0 then cL2 T P (nm T 0 (Int32.ofNat (P.1 0) - 1) q).2.2.1 (nm T 0 (Int32.ofNat (P.1 0) - 1) q).2.2.2
  else ((nm T 0 (Int32.ofNat (P.1 0) - 1) q).1, (nm T 0 (Int32.ofNat (P.1 0) - 1) q).2.1, P)
def cM3 (T : Nat → Int32) (P : PS) (k l : Int32) (q : Nat) : Out :=
  if (nm T 0 63 q).1 = 0 then
    if bad P ((nm T 0 63 q).2.2.1 <<< (6 &&& 31)) = true then (2, (nm T 0 63 q).2.1, P)
    else ec T (nm T 0 63 q).2.2.2 (pM P k (l ||| ((nm T 0 63 q).2.2.1 <<< (6 &&& 31))))
  else ((nm T 0 63 q).1, (nm T 0 63 q).2.1, P)
def cM2 (T : Nat → Int32) (P : PS) (k : Int32) (q : Nat) : Out :=
  if (nm T 0 63 q).1 = 0 then
    if bad P (nm T 0 63 q).2.2.1 = true then (2, (nm T 0 63 q).2.1, P)
    else cM3 T P k (nm T 0 63 q).2.2.1 (nm T 0 63 q).2.2.2
  else ((nm T 0 63 q).1, (nm T 0 63 q).2.1, P)
def cM (T : Nat → Int32) (P : PS) (q : Nat) : Out :=
  if (nm T 0 4 q).1 = 0 then cM2 T P (nm T 0 4 q).2.2.1 (nm T 0 4 q).2.2.2 else ((nm T 0 4 q).1, (nm T 0 4 q).2.1, P)
def cJ (T : Nat → Int32) (P : PS) (q : Nat) : Out :=
  if (nm T 1 12 q).1 = 0 then ec T (nm T 1 12 q).2.2.2 (pJ P (nm T 1 12 q).2.2.1) else ((nm T 1 12 q).1, (nm T 1 12 q).2.1, P)
/-- may the word stand? -/
def wf (P : PS) (c : Int32) : Nat :=
  if c = 105 then (if P.1 0 = 0 then 1 else if P.1 3 < 4 then 0 else 3)
  else if c = 108 then (if P.1 0 = 0 then 1 else if P.1 2 = 0 then (if P.1 1 < 12 then 0 else 3) else 1)
  else if c = 109 then (if P.1 0 = 0 then 1 else if P.1 2 < 5 then 0 else 3)
  else if c = 110 then (if P.1 0 = 0 then 0 else 3) else 1
def cl (T : Nat → Int32) (P : PS) (q : Nat) : Out :=
  if wf P (T q) = 0 then
    if T q = 108 then cL T P (q + 1) else if T q = 109 then cM T P (q + 1) else if T q = 110 then cN T P (q + 1) else cJ T P (q + 1)
  else (wf P (T q), q, P)
def su (T : Nat → Int32) : Nat → PS → Nat → Out
  | 0, P, q => (0, q, P)
  | d + 1, P, q => if T (sk T q) = -1 then (0, sk T q, P) else if (cl T P (sk T q)).1 = 0 then su T d (cl T P (sk T q)).2.2 (cl T P (sk T q)).2.1 else cl T P (sk T q)
def P0 : PS := (fun _ => 0, 0, fun _ _ => 0)
def pz (T : Nat → Int32) : Out := su T 241 P0 0
def PB (P : PS) : Prop := P.1 0 ≤ 8 ∧ P.1 1 ≤ 12 ∧ P.1 2 ≤ 5 ∧ P.1 3 ≤ 4
