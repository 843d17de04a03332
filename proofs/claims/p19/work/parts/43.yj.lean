/-! fines: the order in which an inspector looks -/
/-- of those that are shown, the first c: how many are not true -/
def uc (f : Nat → Nat) (sh land : Int32) : Nat → Nat → Nat → Nat
  | 0, _, _ => 0
  | d + 1, i, c => if c = 0 then 0 else bif bt sh (f i) then (bif bt land (f i) then 0 else 1) + uc f sh land d (i + 1) (c - 1) else uc f sh land d (i + 1) c
theorem uc_0 (f : Nat → Nat) (sh land : Int32) : ∀ d i, uc f sh land d i 0 = 0
  | 0, _ => rfl
  | d + 1, i => by
    show (if (0 : Nat) = 0 then 0 else bif bt sh (f i) then (bif bt land (f i) then 0 else 1) + uc f sh land d (i + 1) (0 - 1) else uc f sh land d (i + 1) 0) = 0
    rw [if_pos rfl]
theorem uc_f {f : Nat → Nat} {sh land : Int32} {d i c : Nat} (h : bt sh (f i) = false) : uc f sh land (d + 1) i c = uc f sh land d (i + 1) c := by
  show (if c = 0 then 0 else bif bt sh (f i) then (bif bt land (f i) then 0 else 1) + uc f sh land d (i + 1) (c - 1) else uc f sh land d (i + 1) c) = _
  by_cases c0 : c = 0
  · rw [if_pos c0, c0, uc_0]
  · rw [if_neg c0, h, cond_false]
theorem uc_t {f : Nat → Nat} {sh land : Int32} {d i c : Nat} (h : bt sh (f i) = true) : uc f sh land (d + 1) i (c + 1) = (bif bt land (f i) then 0 else 1) + uc f sh land d (i + 1) c := by
  show (if c + 1 = 0 then 0 else bif bt sh (f i) then (bif bt land (f i) then 0 else 1) + uc f sh land d (i + 1) (c + 1 - 1) else uc f sh land d (i + 1) (c + 1)) = _
  rw [if_neg (by omega), h, cond_true]
  rfl
theorem uc_le (f : Nat → Nat) (sh land : Int32) : ∀ d i c, uc f sh land d i c ≤ d
  | 0, _, _ => Nat.le_refl 0
  | d + 1, i, c => by
    cases c with
    | zero => rw [uc_0]; omega
    | succ c =>
      cases h : bt sh (f i) with
      | false => rw [uc_f h]; have := uc_le f sh land d (i + 1) (c + 1); omega
      | true =>
        rw [uc_t h]
        have := uc_le f sh land d (i + 1) c
        cases bt land (f i)
        · rw [cond_false]; omega
        · rw [cond_true]; omega
/-- none is shown from p on -/
theorem uc_n {f : Nat → Nat} {sh land : Int32} : ∀ d p c, (∀ k, p ≤ k → k < p + d → bt sh (f k) = false) → uc f sh land d p c = 0
  | 0, _, _, _ => rfl
  | d + 1, p, c, h => by
    rw [uc_f (h p (Nat.le_refl _) (by omega))]
    exact uc_n d (p + 1) c (fun k h1 h2 => h k (by omega) (by omega))
/-- the first that is shown is k -/
theorem uc_k {f : Nat → Nat} {sh land : Int32} {c : Nat} : ∀ d p k, p ≤ k → k < p + d → (∀ j, p ≤ j → j < k → bt sh (f j) = false) → bt sh (f k) = true → uc f sh land d p (c + 1) = (bif bt land (f k) then 0 else 1) + uc f sh land (p + d - (k + 1)) (k + 1) c
  | 0, p, k, h1, h2, _, _ => by omega
  | d + 1, p, k, h1, h2, h3, h4 => by
    by_cases e : p = k
    · subst e
      rw [uc_t h4]
      have : p + (d + 1) - (p + 1) = d := by omega
      rw [this]
    · rw [uc_f (h3 p (Nat.le_refl _) (by omega)), uc_k d (p + 1) k (by omega) (by omega) (fun j a b => h3 j (by omega) b) h4]
      have : p + 1 + d - (k + 1) = p + (d + 1) - (k + 1) := by omega
      rw [this]
/-- untrueSeen -/
theorem s_21l {σ : St} {P : PS} {f : Nat → Nat} {ch sh land : Int32} {K : Int32 → St → Prop} (hx : XP σ P) (hq : ∀ i, i < P.1 1 → σ 15 i = Int32.ofNat (f i)) (hf : ∀ i, i < P.1 1 → f i < P.1 1) : ∀ (d i c t : Nat) (x4 : Int32), i + d = P.1 1 → t ≤ i → (x4.toInt = (c : Int) ∨ (c = 0 ∧ x4.toInt ≤ 0)) → K (Int32.ofNat (t + uc f sh land d i c)) σ → PI 21 9 [some (.ref 11), some (.int ch), some (.int sh), some (.int land), some (.int x4), some (.int (Int32.ofNat t)), some (.int (Int32.ofNat i))] [] σ K := by
  have h12 := hx.1.2.1
  have l0 : (0 : Int32).toInt = 0 := rfl
  intro d
  induction d with
  | zero =>
    intro i c t x4 hi ht h4 hK
    refine w_21_9 ?_
    rw [hx.2.2.1, if_pos (by rw [Int32.le_iff_toInt_le, ti_of (by omega), ti_of (by omega)]; omega)]
    exact hK
  | succ d ih =>
    intro i c t x4 hi ht h4 hK
    refine w_21_9 ?_
    rw [hx.2.2.1, if_neg (by rw [Int32.le_iff_toInt_le, ti_of (by omega), ti_of (by omega)]; omega)]
    by_cases c0 : x4 ≤ 0
    · rw [if_pos c0]
      rw [Int32.le_iff_toInt_le, l0] at c0
      have cz : c = 0 := by omega
      rw [cz, uc_0] at hK
      exact hK
    · rw [if_neg c0]
      rw [Int32.le_iff_toInt_le, l0] at c0
      have e4 : x4.toInt = (c : Int) := by omega
      have f12 := hf i (by omega)
      refine ⟨by rw [ti_of (by omega)]; omega, ?_⟩
      rw [tc_of (by omega), hq i (by omega)]
      refine s_92 (by omega) ?_
      cases hs : bt sh (f i) with
      | false =>
        rw [if_neg (by rw [b01_0.mpr hs]; decide), of_s]
        rw [uc_f hs] at hK
        exact ih (i + 1) c t x4 (by omega) (by omega) (Or.inl e4) hK
      | true =>
        rw [if_pos (b01_1.mpr hs), hq i (by omega)]
        refine s_92 (by omega) ?_
        obtain ⟨c', rfl⟩ : ∃ c', c = c' + 1 := ⟨c - 1, by omega⟩
        rw [uc_t hs] at hK
        have lm : (-1 : Int32).toInt = -1 := rfl
        have r4 := ti_r x4
        have e5 : (x4 + (-1)).toInt = (c' : Int) := by rw [ti_add (by rw [lm]; omega) (by rw [lm]; omega), lm]; omega
        rw [of_s]
        cases hl : bt land (f i) with
        | true =>
          rw [hl, cond_true, Nat.zero_add] at hK
          rw [b01_1.mpr hl]
          have e : Int32.ofNat t + (1 - 1) = Int32.ofNat t := ad_z _
          rw [e]
          exact ih (i + 1) c' t _ (by omega) (by omega) (Or.inl e5) hK
        | false =>
          rw [hl, cond_false] at hK
          rw [b01_0.mpr hl]
          have e : Int32.ofNat t + (1 - 0) = Int32.ofNat (t + 1) := of_s t
          rw [e]
          refine ih (i + 1) c' (t + 1) _ (by omega) (by omega) (Or.inl e5) ?_
          rw [show t + 1 + uc f sh land d (i + 1) c' = t + (1 + uc f sh land d (i + 1) c') by omega]
          exact hK
theorem s_21 {σ : St} {P : PS} {f : Nat → Nat} {ch sh land : Int32} {K : Int32 → St → Prop} (hx : XP σ P) (hq : ∀ i, i < P.1 1 → σ 15 i = Int32.ofNat (f i)) (hf : ∀ i, i < P.1 1 → f i < P.1 1) (hK : K (Int32.ofNat (uc f sh land (P.1 1) 0 ch.toInt.toNat)) σ) : CI 21 [.ref 11, .int ch, .int sh, .int land] σ K :=
  w_21 (s_21l hx hq hf (P.1 1) 0 ch.toInt.toNat 0 ch (by omega) (by omega) (by omega) (by rw [Nat.zero_add]; exact hK))
theorem s_101 {σ : St} {P : PS} {f : Nat → Nat} {a m : Nat} {K : Int32 → St → Prop} (hx : XP σ P) (hq : ∀ i, i < P.1 1 → σ 15 i = Int32.ofNat (f i)) (hf : ∀ i, i < P.1 1 → f i < P.1 1) (ha : a < P.1 3) (hm : m < P.1 2) (hK : K (Int32.ofNat (10 * uc f (σ 20 m) (σ 19 0) (P.1 1) 0 (P.2.2 5 a).toInt.toNat)) σ) : CI 101 [.ref 0, .int (Int32.ofNat a), .int (Int32.ofNat m)] σ K := by
  have h5 := hx.1.2.2.1
  have h4 := hx.1.2.2.2
  have h12 := hx.1.2.1
  have ra : inR (P.1 3) (Int32.ofNat a) := by unfold inR; rw [ti_of (by omega)]; omega
  have rm : inR (P.1 2) (Int32.ofNat m) := by unfold inR; rw [ti_of (by omega)]; omega
  refine w_101 (s_87 hx.2.2.2.2.1 h4 (ite10 (fun _ => s_86 hx.2.2.2.1 h5 (ite10 (fun _ => ⟨by rw [ti_of (by omega)]; omega, by rw [ti_of (by omega)]; omega, ?_⟩) (fun c => absurd rm c))) (fun c => absurd ra c)))
  rw [tc_of (by omega), tc_of (by omega), hx.2.2.2.2.2.2.2 a ha]
  refine s_21 hx hq hf ?_
  have u := uc_le f (σ 20 m) (σ 19 0) (P.1 1) 0 (P.2.2 5 a).toInt.toNat
  have l10 : (10 : Int32).toInt = 10 := rfl
  have e : 10 * Int32.ofNat (uc f (σ 20 m) (σ 19 0) (P.1 1) 0 (P.2.2 5 a).toInt.toNat) = Int32.ofNat (10 * uc f (σ 20 m) (σ 19 0) (P.1 1) 0 (P.2.2 5 a).toInt.toNat) := ti_inj (by
    rw [ti_mul (by rw [ti_of (by omega), l10]; omega) (by rw [ti_of (by omega), l10]; omega), ti_of (by omega), ti_of (by omega), l10]
    omega)
  rw [e]
  exact hK
/-! the reference: the best that is left -/
def BsI (dt : Nat → Int32) (S : Int32) (l : Nat) (x : Int32) : Prop := (x = -1 ∧ ∀ i, i < l → bt S i = false) ∨ ∃ b, b < l ∧ x = Int32.ofNat b ∧ bt S b = true ∧ ∀ i, i < l → bt S i = true → i = b ∨ bef dt b i
theorem s_159i {σ : St} {P : PS} {a b S x4 x5 : Int32} {K : Int32 → St → Prop} (hb : PB P) (hm : MPl σ P) (cont : ∀ x, BsI (P.2.2 2) S (P.1 1) x → PI 159 34 [some (.ref 39), some (.int a), some (.int b), some (.int S), some (.int x4), some (.int x5), some (.int x), some (.int (Int32.ofNat (P.1 1)))] [] σ K) : ∀ (d l : Nat) (x : Int32), l + d = P.1 1 → BsI (P.2.2 2) S l x → PI 159 34 [some (.ref 39), some (.int a), some (.int b), some (.int S), some (.int x4), some (.int x5), some (.int x), some (.int (Int32.ofNat l))] [] σ K := by
  have h12 := hb.2.1
  have l0 : (0 : Int32).toInt = 0 := rfl
  intro d
  induction d with
  | zero =>
    intro l x hl hB
    have e : l = P.1 1 := by omega
    rw [e] at hB ⊢
    exact cont x hB
  | succ d ih =>
    intro l x hl hB
    refine w_159_34 ?_
    rw [hm.2.1, if_neg (by rw [Int32.le_iff_toInt_le, ti_of (by omega), ti_of (by omega)]; omega)]
    refine s_110 (by omega) ?_
    rw [of_s]
    cases hs : bt S l with
    | false =>
      rw [if_pos (b01_0.mpr hs)]
      refine ih (l + 1) x (by omega) ?_
      rcases hB with ⟨h1, h2⟩ | ⟨b', b1, b2, b3, b4⟩
      · refine Or.inl ⟨h1, fun i hi => ?_⟩
        by_cases c : i = l
        · rw [c]; exact hs
        · exact h2 i (by omega)
      · refine Or.inr ⟨b', by omega, b2, b3, fun i hi hi2 => ?_⟩
        by_cases c : i = l
        · rw [c, hs] at hi2; cases hi2
        · exact b4 i (by omega) hi2
    | true =>
      rw [if_neg (by rw [b01_1.mpr hs]; decide)]
      rcases hB with ⟨h1, h2⟩ | ⟨b', b1, b2, b3, b4⟩
      · rw [h1, if_pos (by decide)]
        refine ih (l + 1) _ (by omega) (Or.inr ⟨l, by omega, rfl, hs, fun i hi hi2 => ?_⟩)
        by_cases c : i = l
        · exact Or.inl c
        · rw [h2 i (by omega)] at hi2; cases hi2
      · rw [b2, if_neg (by rw [Int32.lt_iff_toInt_lt, ti_of (by omega), l0]; omega)]
        refine ⟨by rw [ti_of (by omega)]; omega, by rw [ti_of (by omega)]; omega, ?_⟩
        rw [tc_of (show l < 2147483648 by omega), tc_of (show b' < 2147483648 by omega), (hm.2.2.2.2.1 l (by omega)).2.2, (hm.2.2.2.2.1 b' (by omega)).2.2]
        by_cases c : P.2.2 2 l ≤ P.2.2 2 b'
        · rw [if_pos c]
          rw [Int32.le_iff_toInt_le] at c
          refine ih (l + 1) _ (by omega) (Or.inr ⟨b', by omega, rfl, b3, fun i hi hi2 => ?_⟩)
          by_cases ci : i = l
          · rw [ci]; exact Or.inr (by unfold bef; omega)
          · exact b4 i (by omega) hi2
        · rw [if_neg c]
          rw [Int32.le_iff_toInt_le] at c
          refine ih (l + 1) _ (by omega) (Or.inr ⟨l, by omega, rfl, hs, fun i hi hi2 => ?_⟩)
          by_cases ci : i = l
          · exact Or.inl ci
          · rcases b4 i (by omega) hi2 with e | e
            · rw [e]; exact Or.inr (Or.inl (by omega))
            · unfold bef at e
              exact Or.inr (Or.inl (by omega))
/-- what is left: shown, and at p or behind it -/
def Lf (P : PS) (f : Nat → Nat) (sh S : Int32) (p : Nat) : Prop := ∀ i, bt S i = true ↔ (bt sh i = true ∧ ∃ k, p ≤ k ∧ k < P.1 1 ∧ f k = i)
theorem fk_ex {g : Nat → Bool} : ∀ (d p : Nat), (∃ k, p ≤ k ∧ k < p + d ∧ g k = true) → ∃ k, p ≤ k ∧ k < p + d ∧ g k = true ∧ ∀ j, p ≤ j → j < k → g j = false
  | 0, p, ⟨k, h1, h2, _⟩ => by omega
  | d + 1, p, ⟨k, h1, h2, h3⟩ => by
    cases hp : g p with
    | true => exact ⟨p, Nat.le_refl _, by omega, hp, fun j a b => by omega⟩
    | false =>
      have : ¬ k = p := fun e => by rw [e, hp] at h3; cases h3
      obtain ⟨k', a, b, c, e⟩ := fk_ex d (p + 1) ⟨k, by omega, by omega, h3⟩
      refine ⟨k', by omega, by omega, c, fun j j1 j2 => ?_⟩
      by_cases ej : j = p
      · rw [ej]; exact hp
      · exact e j (by omega) j2
theorem b_del {S : Int32} {k : Nat} (hk : k < 32) (i : Nat) : bt (S &&& ((1 <<< (Int32.ofNat k &&& 31)) ^^^ (-1))) i = (bt S i && !decide (i = k)) := by
  by_cases hi : i < 32
  · rw [b_and, b_xor, b_one hk, b_m1 i hi]
    cases decide (i = k) <;> rfl
  · rw [b_big (by omega), b_big (by omega)]; rfl
theorem LKp.inj {L : Nat} {dt : Nat → Int32} {f : Nat → Nat} (h : LKp L dt f) {i j : Nat} (hi : i < L) (hj : j < L) (e : f i = f j) : i = j := by
  rcases Nat.lt_trichotomy i j with c | c | c
  · have := h.2.1 i j c hj
    rw [e] at this
    exact (bef_as this this).elim
  · exact c
  · have := h.2.1 j i c hi
    rw [e] at this
    exact (bef_as this this).elim
theorem s_159w {σ : St} {P : PS} {f : Nat → Nat} {a m : Nat} {sh : Int32} {K : Int32 → St → Prop} (hb : PB P) (hm : MPl σ P) (hL : LKp (P.1 1) (P.2.2 2) f) (ha : a < P.1 3) : ∀ (e p n t : Nat) (S : Int32) (o o' : Option Value), p + e = P.1 1 → n ≤ p → t ≤ p → Lf P f sh S p → K (Int32.ofNat (10 * (t + uc f sh (σ 46 10) e p ((P.2.2 5 a).toInt.toNat - n)))) σ → PI 159 13 [some (.ref 39), some (.int (Int32.ofNat a)), some (.int (Int32.ofNat m)), some (.int S), some (.int (Int32.ofNat (10 * t))), some (.int (Int32.ofNat n)), o, o'] [] σ K := by
  have h12 := hb.2.1
  have h4 := hb.2.2.2
  intro e
  induction e using Nat.strongRecOn with
  | ind e ih =>
    intro p n t S o o' hp hn ht hS hK
    refine w_159_13 ⟨by rw [ti_of (by omega)]; omega, ?_⟩
    rw [tc_of (by omega), hm.2.2.2.2.2.2 a ha]
    by_cases c1 : P.2.2 5 a ≤ Int32.ofNat n
    · rw [if_pos c1]
      rw [Int32.le_iff_toInt_le, ti_of (by omega)] at c1
      rw [show (P.2.2 5 a).toInt.toNat - n = 0 by omega, uc_0] at hK
      exact hK
    · rw [if_neg c1]
      rw [Int32.le_iff_toInt_le, ti_of (by omega)] at c1
      by_cases c2 : S = 0
      · rw [if_pos c2]
        rw [uc_n e p _ (fun k k1 k2 => ?_)] at hK
        · exact hK
        · cases hq : bt sh (f k) with
          | false => rfl
          | true =>
            have := (hS (f k)).mpr ⟨hq, k, k1, by omega, rfl⟩
            rw [c2, b_0] at this
            cases this
      · rw [if_neg c2]
        refine s_159i hb hm (fun x hB => ?_) (P.1 1) 0 (-1) (by omega) (Or.inl ⟨rfl, fun i hi => absurd hi (Nat.not_lt_zero i)⟩)
        -- some is left
        have ex : ∃ i, bt S i = true := Classical.byContradiction fun z => c2 (b_ext fun i _ => by
          rw [b_0]
          cases hq : bt S i with
          | false => rfl
          | true => exact absurd ⟨i, hq⟩ z)
        obtain ⟨i0, hi0⟩ := ex
        obtain ⟨s0, k1, k1a, k1b, k1c⟩ := (hS i0).mp hi0
        obtain ⟨k0, q1, q2, q3, q4⟩ := fk_ex (g := fun k => bt sh (f k)) e p ⟨k1, k1a, by omega, by rw [k1c]; exact s0⟩
        have fL := hL.1 k0 (by omega)
        have inS : bt S (f k0) = true := (hS _).mpr ⟨q3, k0, q1, by omega, rfl⟩
        rcases hB with ⟨-, hz⟩ | ⟨b, b1, b2, b3, b4⟩
        · rw [hz (f k0) fL] at inS; cases inS
        · have eb : b = f k0 := by
            rcases b4 (f k0) fL inS with z | z
            · exact z.symm
            · exfalso
              obtain ⟨sb, kb, kb1, kb2, kb3⟩ := (hS b).mp b3
              rcases Nat.lt_trichotomy kb k0 with y | y | y
              · rw [← kb3, q4 kb kb1 y] at sb; cases sb
              · rw [← kb3, y] at z; exact bef_as z z
              · have := hL.2.1 k0 kb y kb2
                rw [kb3] at this
                exact bef_as this z
          refine w_159_34 ?_
          rw [hm.2.1, if_pos (by rw [Int32.le_iff_toInt_le, ti_of (by omega)]; omega), b2, eb]
          have S' : Lf P f sh (S &&& ((1 <<< (Int32.ofNat (f k0) &&& 31)) ^^^ (-1))) (k0 + 1) := fun i => by
            rw [b_del (by omega), Bool.and_eq_true, hS i]
            constructor
            · rintro ⟨⟨s1, k, y1, y2, y3⟩, ni⟩
              have ni' : ¬ i = f k0 := by
                cases hd : decide (i = f k0)
                · exact of_decide_eq_false hd
                · rw [hd] at ni; cases ni
              refine ⟨s1, k, ?_, y2, y3⟩
              rcases Nat.lt_trichotomy k k0 with z | z | z
              · rw [← y3, q4 k y1 z] at s1; cases s1
              · exact absurd (by rw [← y3, z]) ni'
              · exact z
            · rintro ⟨s1, k, y1, y2, y3⟩
              refine ⟨⟨s1, k, by omega, y2, y3⟩, ?_⟩
              have : ¬ i = f k0 := fun z => by
                have := hL.inj y2 (by omega) (y3.trans z)
                omega
              rw [decide_eq_false this]; rfl
          obtain ⟨c', hc'⟩ : ∃ c', (P.2.2 5 a).toInt.toNat - n = c' + 1 := ⟨(P.2.2 5 a).toInt.toNat - n - 1, by omega⟩
          rw [hc', uc_k e p k0 q1 q2 q4 q3, show p + e - (k0 + 1) = P.1 1 - (k0 + 1) by omega] at hK
          have c'' : (P.2.2 5 a).toInt.toNat - (n + 1) = c' := by omega
          refine s_110 (by omega) ?_
          rw [of_s]
          have l10 : (10 : Int32).toInt = 10 := rfl
          cases hl : bt (σ 46 10) (f k0) with
          | false =>
            rw [if_pos (b01_0.mpr hl)]
            have e10 : Int32.ofNat (10 * t) + 10 = Int32.ofNat (10 * (t + 1)) := ti_inj (by
              rw [ti_add (by rw [ti_of (by omega), l10]; omega) (by rw [ti_of (by omega), l10]; omega), ti_of (by omega), ti_of (by omega), l10]
              omega)
            rw [e10]
            rw [hl, cond_false] at hK
            refine ih (P.1 1 - (k0 + 1)) (by omega) (k0 + 1) (n + 1) (t + 1) _ _ _ (by omega) (by omega) (by omega) S' ?_
            rw [c'', show t + 1 + uc f sh (σ 46 10) (P.1 1 - (k0 + 1)) (k0 + 1) c' = t + (1 + uc f sh (σ 46 10) (P.1 1 - (k0 + 1)) (k0 + 1) c') by omega]
            exact hK
          | true =>
            rw [if_neg (by rw [b01_1.mpr hl]; decide), ad_z]
            rw [hl, cond_true, Nat.zero_add] at hK
            refine ih (P.1 1 - (k0 + 1)) (by omega) (k0 + 1) (n + 1) t _ _ _ (by omega) (by omega) (by omega) S' ?_
            rw [c'']
            exact hK
theorem s_159 {σ : St} {P : PS} {f : Nat → Nat} {a m : Nat} {K : Int32 → St → Prop} (hb : PB P) (hm : MPl σ P) (hL : LKp (P.1 1) (P.2.2 2) f) (ha : a < P.1 3) (h : m < P.1 2) (hB : ∀ i, P.1 1 ≤ i → bt (σ 46 m) i = false) (hK : K (Int32.ofNat (10 * uc f (σ 46 m) (σ 46 10) (P.1 1) 0 (P.2.2 5 a).toInt.toNat)) σ) : CI 159 [.ref 39, .int (Int32.ofNat a), .int (Int32.ofNat m)] σ K := by
  have h5 := hb.2.2.1
  refine w_159 ⟨by rw [ti_of (by omega)]; omega, ?_⟩
  rw [tc_of (by omega)]
  refine s_159w (sh := σ 46 m) hb hm hL ha (P.1 1) 0 0 0 _ none none (by omega) (by omega) (by omega) (fun i => ⟨fun z => ⟨z, ?_⟩, fun z => z.1⟩) (by rw [Nat.zero_add, Nat.sub_zero]; exact hK)
  by_cases c : i < P.1 1
  · obtain ⟨k, k1, k2⟩ := hL.2.2 i c
    exact ⟨k, Nat.zero_le _, k1, k2⟩
  · rw [hB i (by omega)] at z; cases z
