/-! lands -/
def al2 (g : Nat → Bool) : Nat → Nat → Bool
  | 0, _ => true
  | d + 1, i => g i && al2 g d (i + 1)
def cbG (S : Nat → Int32) (e x : Int32) (m : Nat) : Bool := decide (b12 (x ^^^ S m) ≤ e)
/-- can x be what is true? -/
def cbF (M : Nat) (S : Nat → Int32) (e x : Int32) : Bool := al2 (cbG S e x) M 0
theorem al2_cg {g h : Nat → Bool} : ∀ d i, (∀ j, i ≤ j → j < i + d → g j = h j) → al2 g d i = al2 h d i
  | 0, _, _ => rfl
  | d + 1, i, e => by
    show (g i && al2 g d (i + 1)) = (h i && al2 h d (i + 1))
    rw [e i (Nat.le_refl _) (by omega), al2_cg d (i + 1) (fun j a b => e j (by omega) (by omega))]
theorem s_6l {σ : St} {M : Nat} {x e : Int32} {K : Int32 → St → Prop} (hM : M ≤ 5) (hb : ∀ m, m < M → ∀ i, 12 ≤ i → bt (x ^^^ σ 20 m) i = false) : ∀ d i, i + d = M → K (bif al2 (cbG (σ 20) e x) d i then 1 else 0) σ → PI 6 3 [some (.int x), some (.int (Int32.ofNat M)), some (.ref 20), some (.int e), some (.int (Int32.ofNat i))] [] σ K := by
  have l5 : (5 : Int32).toInt = 5 := rfl
  intro d
  induction d with
  | zero =>
    intro i hi hK
    refine w_6_3 ?_
    rw [if_pos (by rw [Int32.le_iff_toInt_le, ti_of (by omega), ti_of (by omega)]; omega)]
    exact hK
  | succ d ih =>
    intro i hi hK
    have hK' : K (bif cbG (σ 20) e x i && al2 (cbG (σ 20) e x) d (i + 1) then 1 else 0) σ := hK
    refine w_6_3 ?_
    rw [if_neg (by rw [Int32.le_iff_toInt_le, ti_of (by omega), ti_of (by omega)]; omega), if_neg (by rw [Int32.le_iff_toInt_le, l5, ti_of (by omega)]; omega)]
    refine ⟨by rw [ti_of (by omega)]; omega, ?_⟩
    rw [tc_of (by omega)]
    refine s_192 ?_
    rw [bc_n (hb i (by omega)), of_s]
    by_cases c : b12 (x ^^^ σ 20 i) ≤ e
    · rw [if_pos c]
      rw [show cbG (σ 20) e x i = true from decide_eq_true c, Bool.true_and] at hK'
      exact ih (i + 1) (by omega) hK'
    · rw [if_neg c]
      rw [show cbG (σ 20) e x i = false from decide_eq_false c, Bool.false_and, cond_false] at hK'
      exact hK'
theorem s_6 {σ : St} {M : Nat} {x e : Int32} {K : Int32 → St → Prop} (hM : M ≤ 5) (hb : ∀ m, m < M → ∀ i, 12 ≤ i → bt (x ^^^ σ 20 m) i = false) (hK : K (bif cbF M (σ 20) e x then 1 else 0) σ) : CI 6 [.int x, .int (Int32.ofNat M), .ref 20, .int e] σ K := w_6 (s_6l hM hb M 0 (by omega) hK)
theorem s_173l {σ : St} {P : PS} {x e : Int32} {K : Int32 → St → Prop} (hb : PB P) (hm : MPl σ P) : ∀ (d i : Nat) (t : Bool), i + d = P.1 2 → K (bif t && al2 (cbG (σ 46) e x) d i then 1 else 0) σ → PI 173 5 [some (.ref 39), some (.int x), some (.int e), some (.int (bif t then 1 else 0)), some (.int (Int32.ofNat i))] [] σ K := by
  have h5 := hb.2.2.1
  intro d
  induction d with
  | zero =>
    intro i t hi hK
    refine w_173_5 ?_
    rw [hm.2.2.1, if_pos (by rw [Int32.le_iff_toInt_le, ti_of (by omega), ti_of (by omega)]; omega)]
    have hK' : K (bif t && true then 1 else 0) σ := hK
    rw [Bool.and_true] at hK'
    refine ⟨?_, hK'⟩
    cases t
    · exact Or.inl rfl
    · exact Or.inr rfl
  | succ d ih =>
    intro i t hi hK
    have hK' : K (bif t && (cbG (σ 46) e x i && al2 (cbG (σ 46) e x) d (i + 1)) then 1 else 0) σ := hK
    refine w_173_5 ?_
    rw [hm.2.2.1, if_neg (by rw [Int32.le_iff_toInt_le, ti_of (by omega), ti_of (by omega)]; omega), of_s]
    cases t with
    | false =>
      rw [cond_false, if_pos rfl]
      exact ih (i + 1) false (by omega) hK'
    | true =>
      rw [cond_true, if_neg (by decide)]
      refine ⟨by rw [ti_of (by omega)]; omega, ?_⟩
      rw [tc_of (by omega)]
      refine s_111 ?_
      rw [Bool.true_and] at hK'
      by_cases c : e < b12 (x ^^^ σ 46 i)
      · rw [if_pos c]
        rw [show cbG (σ 46) e x i = false from decide_eq_false (by rw [Int32.le_iff_toInt_le]; rw [Int32.lt_iff_toInt_lt] at c; omega)] at hK'
        exact ih (i + 1) false (by omega) hK'
      · rw [if_neg c]
        rw [show cbG (σ 46) e x i = true from decide_eq_true (by rw [Int32.le_iff_toInt_le]; rw [Int32.lt_iff_toInt_lt] at c; omega)] at hK'
        exact ih (i + 1) true (by omega) hK'
theorem s_173 {σ : St} {P : PS} {x e : Int32} {K : Int32 → St → Prop} (hb : PB P) (hm : MPl σ P) (hK : K (bif cbF (P.1 2) (σ 46) e x then 1 else 0) σ) : CI 173 [.ref 39, .int x, .int e] σ K := w_173 (s_173l hb hm (P.1 2) 0 true (by omega) (by rw [Bool.true_and]; exact hK))
/-! counting sets -/
theorem p2_tab : ∀ L : Fin 13, (1 : Int32) <<< (Int32.ofNat L.val &&& 31) = Int32.ofNat (2 ^ L.val) := by decide +kernel
theorem p2_of {L : Nat} (h : L ≤ 12) : (1 : Int32) <<< (Int32.ofNat L &&& 31) = Int32.ofNat (2 ^ L) := p2_tab ⟨L, by omega⟩
theorem p2_le {L : Nat} (h : L ≤ 12) : 2 ^ L ≤ 4096 := by
  have : 2 ^ L ≤ 2 ^ 12 := Nat.pow_le_pow_right (by omega) h
  omega
theorem bt_of {n i : Nat} (hi : i < 32) : bt (Int32.ofNat n) i = n.testBit i := by
  show (BitVec.ofNat 32 n).getLsbD i = n.testBit i
  rw [BitVec.getLsbD_ofNat, decide_eq_true hi, Bool.true_and]
theorem bt_lt {n L i : Nat} (hL : L ≤ 12) (hn : n < 2 ^ L) (h : L ≤ i) : bt (Int32.ofNat n) i = false := by
  by_cases c : i < 32
  · rw [bt_of c]
    exact Nat.testBit_lt_two_pow (Nat.lt_of_lt_of_le hn (Nat.pow_le_pow_right (by omega) h))
  · exact b_big (by omega)
theorem cnt_cg {f g : Nat → Bool} : ∀ n, (∀ i, i < n → f i = g i) → cnt f n = cnt g n
  | 0, _ => rfl
  | n + 1, h => by
    show cnt f n + (bif f n then 1 else 0) = cnt g n + (bif g n then 1 else 0)
    rw [cnt_cg n (fun i hi => h i (by omega)), h n (by omega)]
/-- the sets' meet, from the whole on -/
def iaF (f : Nat → Bool) (w : Int32) : Nat → Int32
  | 0 => w
  | n + 1 => bif f n then iaF f w n &&& Int32.ofNat n else iaF f w n
def hvF (f : Nat → Bool) (l : Nat) (t : Nat) : Bool := f t && bt (Int32.ofNat t) l
/-- count -/
theorem s_7l {σ0 : St} {L t : Nat} {K : St → Prop} (hL : L ≤ 12) (hK : ∀ σ', (∀ k j, ¬ k = 38 → σ' k j = σ0 k j) → (∀ j, j < L → σ' 38 j = σ0 38 j + b01 (Int32.ofNat t) j) → K σ') : ∀ (d l : Nat) {σ : St}, l + d = L → (∀ k j, ¬ k = 38 → σ k j = σ0 k j) → (∀ j, σ 38 j = if j < l then σ0 38 j + b01 (Int32.ofNat t) j else σ0 38 j) → PV 7 22 [some (.ref 37), some (.int (Int32.ofNat t)), some (.int (Int32.ofNat L)), some (.int (Int32.ofNat l))] [] σ K := by
  have l12 : (12 : Int32).toInt = 12 := rfl
  intro d
  induction d with
  | zero =>
    intro l σ hl hf hr
    refine w_7_22 ?_
    rw [if_pos (by rw [Int32.le_iff_toInt_le, ti_of (by omega), ti_of (by omega)]; omega)]
    exact hK σ hf (fun j hj => by rw [hr j, if_pos (by omega)])
  | succ d ih =>
    intro l σ hl hf hr
    refine w_7_22 ?_
    rw [if_neg (by rw [Int32.le_iff_toInt_le, ti_of (by omega), ti_of (by omega)]; omega), if_neg (by rw [Int32.le_iff_toInt_le, l12, ti_of (by omega)]; omega)]
    refine ⟨by rw [ti_of (by omega)]; omega, s_92 (by omega) ?_⟩
    rw [tc_of (by omega), of_s]
    refine ih (l + 1) (by omega) (fun k j hk => by rw [s2_ne _ _ (fun z => hk z.1)]; exact hf k j hk) (fun j => ?_)
    show (if j = l then σ 38 l + b01 (Int32.ofNat t) l else σ 38 j) = _
    by_cases c : j = l
    · rw [if_pos c, if_pos (by omega), c, hr l, if_neg (by omega)]
    · rw [if_neg c, hr j]
      by_cases c2 : j < l
      · rw [if_pos c2, if_pos (by omega)]
      · rw [if_neg c2, if_neg (by omega)]
theorem s_7 {σ : St} {L t : Nat} {K : St → Prop} (hL : L ≤ 12) (hK : ∀ σ', (∀ k j, ¬ k = 37 → ¬ k = 38 → σ' k j = σ k j) → σ' 37 0 = σ 37 0 + 1 → σ' 37 1 = σ 37 1 &&& Int32.ofNat t → (∀ j, j < L → σ' 38 j = σ 38 j + b01 (Int32.ofNat t) j) → K σ') : CV 7 [.ref 37, .int (Int32.ofNat t), .int (Int32.ofNat L)] σ K := by
  refine w_7 (s_7l (σ0 := s2 (s2 σ 37 0 (σ 37 0 + 1)) 37 1 (σ 37 1 &&& Int32.ofNat t)) hL (fun σ' f r => hK σ' (fun k j h1 h2 => ?_) ?_ ?_ (fun j hj => ?_)) L 0 (by omega) (fun _ _ _ => rfl) (fun j => by rw [if_neg (by omega)]))
  · rw [f k j h2, s2_ne _ _ (by omega), s2_ne _ _ (by omega)]
  · rw [f 37 0 (by omega), s2_ne _ _ (by omega), s2_self]
  · rw [f 37 1 (by omega), s2_self]
  · rw [r j hj, s2_ne _ _ (by omega), s2_ne _ _ (by omega)]
/-- what is gathered, of n sets -/
def GaI (f : Nat → Bool) (L n : Nat) (σ : St) : Prop := σ 37 0 = Int32.ofNat (cnt f n) ∧ σ 37 1 = iaF f ((1 <<< (Int32.ofNat L &&& 31)) - 1) n ∧ ∀ j, j < L → σ 38 j = Int32.ofNat (cnt (hvF f j) n)
theorem s_5l {τ : St} {P : PS} {e : Int32} {K : St → Prop} (hx : XP τ P) (hS : ∀ m, m < P.1 2 → ∀ i, P.1 1 ≤ i → bt (τ 20 m) i = false) (hK : ∀ σ', (∀ k j, ¬ k = 37 → ¬ k = 38 → σ' k j = τ k j) → GaI (fun t => cbF (P.1 2) (τ 20) e (Int32.ofNat t)) (P.1 1) (2 ^ P.1 1) σ' → K σ') : ∀ (d n : Nat) {σ : St}, n + d = 2 ^ P.1 1 → (∀ k j, ¬ k = 37 → ¬ k = 38 → σ k j = τ k j) → GaI (fun t => cbF (P.1 2) (τ 20) e (Int32.ofNat t)) (P.1 1) n σ → PV 5 35 [some (.ref 37), some (.ref 11), some (.ref 20), some (.int e), some (.int (Int32.ofNat (2 ^ P.1 1))), some (.int (Int32.ofNat n))] [] σ K := by
  have h12 := hx.1.2.1
  have h5 := hx.1.2.2.1
  have p2 := p2_le h12
  intro d
  induction d with
  | zero =>
    intro n σ hn hf hG
    refine w_5_35 ?_
    rw [if_pos (by rw [Int32.le_iff_toInt_le, ti_of (by omega), ti_of (by omega)]; omega)]
    have en : n = 2 ^ P.1 1 := by omega
    rw [en] at hG
    exact hK σ hf hG
  | succ d ih =>
    intro n σ hn hf hG
    refine w_5_35 ?_
    rw [if_neg (by rw [Int32.le_iff_toInt_le, ti_of (by omega), ti_of (by omega)]; omega), (hf 11 2 (by omega) (by omega)).trans hx.2.2.2.1]
    have e20 : σ 20 = τ 20 := funext fun j => hf 20 j (by omega) (by omega)
    refine s_6 h5 (fun m hm i hi => ?_) ?_
    · rw [b_xor, bt_lt (L := P.1 1) h12 (by omega) (by omega), e20, hS m hm i (by omega)]; rfl
    · rw [e20, of_s]
      cases hc : cbF (P.1 2) (τ 20) e (Int32.ofNat n) with
      | false =>
        rw [cond_false, if_pos rfl]
        refine ih (n + 1) (by omega) hf ⟨?_, ?_, fun j hj => ?_⟩
        · rw [hG.1]
          show _ = Int32.ofNat (cnt (fun t => cbF (P.1 2) (τ 20) e (Int32.ofNat t)) n + (bif cbF (P.1 2) (τ 20) e (Int32.ofNat n) then 1 else 0))
          rw [hc, cond_false, Nat.add_zero]
        · rw [hG.2.1]
          show _ = bif cbF (P.1 2) (τ 20) e (Int32.ofNat n) then _ else _
          rw [hc, cond_false]
        · rw [hG.2.2 j hj]
          show _ = Int32.ofNat (cnt (hvF (fun t => cbF (P.1 2) (τ 20) e (Int32.ofNat t)) j) n + (bif (cbF (P.1 2) (τ 20) e (Int32.ofNat n) && bt (Int32.ofNat n) j) then 1 else 0))
          rw [hc, Bool.false_and, cond_false, Nat.add_zero]
      | true =>
        rw [cond_true, if_neg (by decide), (hf 11 1 (by omega) (by omega)).trans hx.2.2.1]
        refine s_7 h12 fun σ1 f1 r0 r1 r2 => ?_
        refine ih (n + 1) (by omega) (fun k j h1 h2 => (f1 k j h1 h2).trans (hf k j h1 h2)) ⟨?_, ?_, fun j hj => ?_⟩
        · rw [r0, hG.1]
          show _ = Int32.ofNat (cnt (fun t => cbF (P.1 2) (τ 20) e (Int32.ofNat t)) n + (bif cbF (P.1 2) (τ 20) e (Int32.ofNat n) then 1 else 0))
          rw [hc, cond_true, of_s]
        · rw [r1, hG.2.1]
          show _ = bif cbF (P.1 2) (τ 20) e (Int32.ofNat n) then _ else _
          rw [hc, cond_true]
        · rw [r2 j hj, hG.2.2 j hj]
          show _ = Int32.ofNat (cnt (hvF (fun t => cbF (P.1 2) (τ 20) e (Int32.ofNat t)) j) n + (bif (cbF (P.1 2) (τ 20) e (Int32.ofNat n) && bt (Int32.ofNat n) j) then 1 else 0))
          rw [hc, Bool.true_and]
          unfold b01
          cases bt (Int32.ofNat n) j
          · rw [cond_false, cond_false, ad_z, Nat.add_zero]
          · rw [cond_true, cond_true, of_s]
theorem s_193_38l {τ : St} {K : St → Prop} (hK : ∀ σ', (∀ k j, ¬ k = 38 → σ' k j = τ k j) → (∀ j, j < 12 → σ' 38 j = 0) → K σ') : ∀ (d i : Nat) {σ : St}, i + d = 12 → (∀ k j, ¬ k = 38 → σ k j = τ k j) → (∀ j, j < i → σ 38 j = 0) → PV 193 5 [some (.ref 38), some (.int 0), some (.int (Int32.ofNat i)), some (.int 12)] [] σ K := by
  have l12 : (12 : Int32).toInt = 12 := rfl
  intro d
  induction d with
  | zero =>
    intro i σ hi hf hr
    refine w_193_38_5 ?_
    rw [if_pos (by rw [Int32.le_iff_toInt_le, ti_of (by omega), l12]; omega)]
    exact hK σ hf (fun j hj => hr j (by omega))
  | succ d ih =>
    intro i σ hi hf hr
    refine w_193_38_5 ?_
    rw [if_neg (by rw [Int32.le_iff_toInt_le, ti_of (by omega), l12]; omega), tc_of (by omega), of_s]
    refine ⟨by rw [ti_of (by omega)]; omega, ih (i + 1) (by omega) (fun k j hk => by rw [s2_ne _ _ (fun z => hk z.1)]; exact hf k j hk) (fun j hj => ?_)⟩
    show (if j = i then 0 else σ 38 j) = 0
    by_cases c : j = i
    · rw [if_pos c]
    · rw [if_neg c]; exact hr j (by omega)
theorem s_5 {σ : St} {P : PS} {e : Int32} {K : St → Prop} (hx : XP σ P) (hS : ∀ m, m < P.1 2 → ∀ i, P.1 1 ≤ i → bt (σ 20 m) i = false) (hK : ∀ σ', (∀ k j, ¬ k = 37 → ¬ k = 38 → σ' k j = σ k j) → GaI (fun t => cbF (P.1 2) (σ 20) e (Int32.ofNat t)) (P.1 1) (2 ^ P.1 1) σ' → K σ') : CV 5 [.ref 37, .ref 11, .ref 20, .int e] σ K := by
  have h12 := hx.1.2.1
  have p2 := p2_le h12
  refine w_5 (s_94 (w_193_38 (s_193_38l (τ := s2 (s2 σ 37 0 0) 37 1 ((1 <<< (σ 11 1 &&& 31)) - 1)) (fun σ2 f2 r2 => ?_) 12 0 (by omega) (fun _ _ _ => rfl) (fun j hj => absurd hj (Nat.not_lt_zero j)))))
  have fr : ∀ k j, ¬ k = 37 → ¬ k = 38 → σ2 k j = σ k j := fun k j h1 h2 => by rw [f2 k j h2, s2_ne _ _ (by omega), s2_ne _ _ (by omega)]
  rw [(fr 11 1 (by omega) (by omega)).trans hx.2.2.1, p2_of h12]
  refine s_5l (τ := σ) (e := e) hx hS hK (2 ^ P.1 1) 0 (by omega) fr ⟨?_, ?_, fun j hj => ?_⟩
  · rw [f2 37 0 (by omega), s2_ne _ _ (by omega), s2_self]; rfl
  · rw [f2 37 1 (by omega), s2_self, hx.2.2.1]; rfl
  · rw [r2 j (by omega)]; rfl
/-! the reference counts anew for each -/
theorem s_174l {σ : St} {P : PS} {e w : Int32} {K : Int32 → St → Prop} (hb : PB P) (hm : MPl σ P) : ∀ (d n : Nat), n + d = 2 ^ P.1 1 → K (Int32.ofNat (cnt (fun t => decide (Int32.ofNat t &&& w = w) && cbF (P.1 2) (σ 46) e (Int32.ofNat t)) (2 ^ P.1 1))) σ → PI 174 5 [some (.ref 39), some (.int e), some (.int w), some (.int (Int32.ofNat (cnt (fun t => decide (Int32.ofNat t &&& w = w) && cbF (P.1 2) (σ 46) e (Int32.ofNat t)) n))), some (.int (Int32.ofNat n))] [] σ K := by
  have h12 := hb.2.1
  have p2 := p2_le h12
  intro d
  induction d with
  | zero =>
    intro n hn hK
    refine w_174_5 ?_
    rw [hm.2.1, p2_of h12, if_pos (by rw [Int32.le_iff_toInt_le, ti_of (by omega), ti_of (by omega)]; omega)]
    have en : n = 2 ^ P.1 1 := by omega
    rw [en]
    exact hK
  | succ d ih =>
    intro n hn hK
    have nx1 := ih (n + 1) (by omega) hK
    have ec : cnt (fun t => decide (Int32.ofNat t &&& w = w) && cbF (P.1 2) (σ 46) e (Int32.ofNat t)) (n + 1) = cnt (fun t => decide (Int32.ofNat t &&& w = w) && cbF (P.1 2) (σ 46) e (Int32.ofNat t)) n + (bif decide (Int32.ofNat n &&& w = w) && cbF (P.1 2) (σ 46) e (Int32.ofNat n) then 1 else 0) := rfl
    rw [ec] at nx1
    refine w_174_5 ?_
    rw [hm.2.1, p2_of h12, if_neg (by rw [Int32.le_iff_toInt_le, ti_of (by omega), ti_of (by omega)]; omega), of_s, ad_z]
    by_cases c : Int32.ofNat n &&& w = w
    · rw [if_pos c]
      refine s_173 hb hm ?_
      rw [decide_eq_true c, Bool.true_and] at nx1
      cases hc : cbF (P.1 2) (σ 46) e (Int32.ofNat n) with
      | false => rw [hc, cond_false, Nat.add_zero] at nx1; rw [cond_false, if_pos rfl]; exact nx1
      | true => rw [hc, cond_true] at nx1; rw [cond_true, if_neg (by decide), of_s]; exact nx1
    · rw [if_neg c]
      rw [decide_eq_false c, Bool.false_and, cond_false, Nat.add_zero] at nx1
      exact nx1
theorem s_174 {σ : St} {P : PS} {e w : Int32} {K : Int32 → St → Prop} (hb : PB P) (hm : MPl σ P) (hK : K (Int32.ofNat (cnt (fun t => decide (Int32.ofNat t &&& w = w) && cbF (P.1 2) (σ 46) e (Int32.ofNat t)) (2 ^ P.1 1))) σ) : CI 174 [.ref 39, .int e, .int w] σ K := w_174 (s_174l hb hm (2 ^ P.1 1) 0 (by omega) hK)
theorem and_z (x : Int32) : x &&& 0 = 0 := b_ext fun i _ => by rw [b_and, b_0, Bool.and_false]
theorem and_1 {x : Int32} {l : Nat} (hl : l < 32) : decide (x &&& (1 <<< (Int32.ofNat l &&& 31)) = 1 <<< (Int32.ofNat l &&& 31)) = bt x l := by
  cases h : bt x l with
  | true =>
    refine decide_eq_true (b_ext fun i _ => ?_)
    rw [b_and, b_one hl]
    by_cases c : i = l
    · rw [c, h]; rfl
    · rw [decide_eq_false c, Bool.and_false]
  | false =>
    refine decide_eq_false (fun z => ?_)
    have := congrArg (fun y => bt y l) z
    try dsimp only at this
    rw [b_and, b_one hl, h, decide_eq_true rfl] at this
    cases this
/-- in all -/
theorem iaF_b {f : Nat → Bool} {w : Int32} {i : Nat} (h : bt w i = false) : ∀ n, bt (iaF f w n) i = false
  | 0 => h
  | n + 1 => by
    show bt (bif f n then iaF f w n &&& Int32.ofNat n else iaF f w n) i = false
    cases f n
    · rw [cond_false]; exact iaF_b h n
    · rw [cond_true, b_and, iaF_b h n, Bool.false_and]
theorem iaF_nn {f : Nat → Bool} {L n : Nat} (hL : L ≤ 12) : 0 ≤ (iaF f ((1 <<< (Int32.ofNat L &&& 31)) - 1) n).toInt := by
  obtain ⟨m, hm, e⟩ := small_n (x := iaF f ((1 <<< (Int32.ofNat L &&& 31)) - 1) n) (fun i hi => iaF_b (by rw [b_msk hL, decide_eq_false (by omega)]) n)
  rw [e, ti_of (by omega)]
  omega
theorem iaF_0 {f : Nat → Bool} {w : Int32} : ∀ n, cnt f n = 0 → iaF f w n = w
  | 0, _ => rfl
  | n + 1, h => by
    have h' : cnt f n + (bif f n then 1 else 0) = 0 := h
    show (bif f n then iaF f w n &&& Int32.ofNat n else iaF f w n) = w
    cases hf : f n with
    | false => rw [cond_false]; exact iaF_0 n (by omega)
    | true => rw [hf, cond_true] at h'; omega
theorem s_175l {σ : St} {P : PS} {e : Int32} {f : Nat → Bool} {K : Int32 → St → Prop} (hb : PB P) (hm : MPl σ P) (hf : ∀ t, t < 2 ^ P.1 1 → f t = cbF (P.1 2) (σ 46) e (Int32.ofNat t)) (hK : K (if cnt f (2 ^ P.1 1) = 0 then -1 else iaF f ((1 <<< (Int32.ofNat (P.1 1) &&& 31)) - 1) (2 ^ P.1 1)) σ) : ∀ (d n : Nat), n + d = 2 ^ P.1 1 → PI 175 4 [some (.ref 39), some (.int e), some (.int (if cnt f n = 0 then -1 else iaF f ((1 <<< (Int32.ofNat (P.1 1) &&& 31)) - 1) n)), some (.int (Int32.ofNat n))] [] σ K := by
  have h12 := hb.2.1
  have p2 := p2_le h12
  have l0 : (0 : Int32).toInt = 0 := rfl
  intro d
  induction d with
  | zero =>
    intro n hn
    refine w_175_4 ?_
    rw [hm.2.1, p2_of h12, if_pos (by rw [Int32.le_iff_toInt_le, ti_of (by omega), ti_of (by omega)]; omega)]
    have en : n = 2 ^ P.1 1 := by omega
    rw [← p2_of h12, en]
    exact hK
  | succ d ih =>
    intro n hn
    have nx1 := ih (n + 1) (by omega)
    have ec : cnt f (n + 1) = cnt f n + (bif f n then 1 else 0) := rfl
    have ei : iaF f ((1 <<< (Int32.ofNat (P.1 1) &&& 31)) - 1) (n + 1) = bif f n then iaF f ((1 <<< (Int32.ofNat (P.1 1) &&& 31)) - 1) n &&& Int32.ofNat n else iaF f ((1 <<< (Int32.ofNat (P.1 1) &&& 31)) - 1) n := rfl
    rw [ec, ei] at nx1
    refine w_175_4 ?_
    have c2 : ¬ (1 <<< (σ 39 1 &&& 31)) ≤ Int32.ofNat n := by rw [hm.2.1, p2_of h12, Int32.le_iff_toInt_le, ti_of (by omega), ti_of (by omega)]; omega
    rw [if_neg c2]
    refine s_173 hb hm ?_
    rw [← hf n (by omega), of_s]
    cases hc : f n with
    | false =>
      rw [hc, cond_false, cond_false, Nat.add_zero] at nx1
      rw [cond_false, if_pos rfl]
      exact nx1
    | true =>
      rw [hc, cond_true, cond_true, if_neg (by omega)] at nx1
      rw [cond_true, if_neg (by decide)]
      by_cases z : cnt f n = 0
      · rw [if_pos z, if_neg (by decide)]
        rw [iaF_0 n z] at nx1
        have em : ((1 <<< (Int32.ofNat (P.1 1) &&& 31)) - 1) &&& Int32.ofNat n = Int32.ofNat n := b_ext fun i _ => by
          rw [b_and, b_msk h12]
          by_cases c : i < P.1 1
          · rw [decide_eq_true c, Bool.true_and]
          · rw [bt_lt h12 (by omega) (by omega), Bool.and_false]
        rw [em] at nx1
        exact nx1
      · rw [if_neg z, if_pos (by rw [Int32.le_iff_toInt_le, l0]; exact iaF_nn h12)]
        exact nx1
/-- the line to walk -/
def lwF (all : Int32) (h : Nat → Int32) : Nat → Nat → Int32 → Int32 → Int32
  | 0, _, b, _ => b
  | d + 1, i, b, p => if p ≤ (if h i < all - h i then all - h i else h i) then lwF all h d (i + 1) b p else lwF all h d (i + 1) (Int32.ofNat i) (if h i < all - h i then all - h i else h i)
theorem s_8l {σ : St} {L : Nat} {K : Int32 → St → Prop} (hL : L ≤ 12) : ∀ (d i : Nat) (b p : Int32) (o : Option Value), i + d = L → K (lwF (σ 37 0) (σ 38) d i b p) σ → PI 8 10 [some (.ref 37), some (.int (Int32.ofNat L)), some (.int b), some (.int p), some (.int (Int32.ofNat i)), o] [] σ K := by
  have l12 : (12 : Int32).toInt = 12 := rfl
  intro d
  induction d with
  | zero =>
    intro i b p o hi hK
    refine w_8_10 ?_
    rw [if_pos (by rw [Int32.le_iff_toInt_le, ti_of (by omega), ti_of (by omega)]; omega)]
    exact hK
  | succ d ih =>
    intro i b p o hi hK
    have hK' : K (if p ≤ (if σ 38 i < σ 37 0 - σ 38 i then σ 37 0 - σ 38 i else σ 38 i) then lwF (σ 37 0) (σ 38) d (i + 1) b p else lwF (σ 37 0) (σ 38) d (i + 1) (Int32.ofNat i) (if σ 38 i < σ 37 0 - σ 38 i then σ 37 0 - σ 38 i else σ 38 i)) σ := hK
    refine w_8_10 ?_
    rw [if_neg (by rw [Int32.le_iff_toInt_le, ti_of (by omega), ti_of (by omega)]; omega), if_neg (by rw [Int32.le_iff_toInt_le, l12, ti_of (by omega)]; omega)]
    refine ⟨by rw [ti_of (by omega)]; omega, ?_⟩
    rw [tc_of (by omega), of_s]
    by_cases c : p ≤ (if σ 38 i < σ 37 0 - σ 38 i then σ 37 0 - σ 38 i else σ 38 i)
    · rw [if_pos c] at hK' ⊢; exact ih (i + 1) _ _ _ (by omega) hK'
    · rw [if_neg c] at hK' ⊢; exact ih (i + 1) _ _ _ (by omega) hK'
theorem s_176l {σ : St} {P : PS} {e all : Int32} {h : Nat → Int32} {K : Int32 → St → Prop} (hb : PB P) (hm : MPl σ P) (hh : ∀ l, l < P.1 1 → h l = Int32.ofNat (cnt (fun t => decide (Int32.ofNat t &&& (1 <<< (Int32.ofNat l &&& 31)) = 1 <<< (Int32.ofNat l &&& 31)) && cbF (P.1 2) (σ 46) e (Int32.ofNat t)) (2 ^ P.1 1))) : ∀ (d i : Nat) (b p : Int32) (o o' : Option Value), i + d = P.1 1 → K (lwF all h d i b p) σ → PI 176 15 [some (.ref 39), some (.int e), some (.int all), some (.int b), some (.int p), some (.int (Int32.ofNat i)), o, o'] [] σ K := by
  have h12 := hb.2.1
  intro d
  induction d with
  | zero =>
    intro i b p o o' hi hK
    refine w_176_15 ?_
    rw [hm.2.1, if_pos (by rw [Int32.le_iff_toInt_le, ti_of (by omega), ti_of (by omega)]; omega)]
    exact hK
  | succ d ih =>
    intro i b p o o' hi hK
    have hK' : K (if p ≤ (if h i < all - h i then all - h i else h i) then lwF all h d (i + 1) b p else lwF all h d (i + 1) (Int32.ofNat i) (if h i < all - h i then all - h i else h i)) σ := hK
    refine w_176_15 ?_
    rw [hm.2.1, if_neg (by rw [Int32.le_iff_toInt_le, ti_of (by omega), ti_of (by omega)]; omega)]
    refine s_174 hb hm ?_
    rw [← hh i (by omega), of_s]
    by_cases c : h i ≤ all - h i
    · rw [if_pos c]
      have ev : (if h i < all - h i then all - h i else h i) = all - h i := by
        by_cases c2 : h i < all - h i
        · rw [if_pos c2]
        · rw [if_neg c2]
          refine ti_inj ?_
          rw [Int32.lt_iff_toInt_lt] at c2
          rw [Int32.le_iff_toInt_le] at c
          omega
      rw [ev] at hK'
      by_cases c3 : p ≤ all - h i
      · rw [if_pos c3] at hK' ⊢; exact ih (i + 1) _ _ _ _ (by omega) hK'
      · rw [if_neg c3] at hK' ⊢; exact ih (i + 1) _ _ _ _ (by omega) hK'
    · rw [if_neg c]
      have ev : (if h i < all - h i then all - h i else h i) = h i := if_neg (by rw [Int32.lt_iff_toInt_lt]; rw [Int32.le_iff_toInt_le] at c; omega)
      rw [ev] at hK'
      by_cases c3 : p ≤ h i
      · rw [if_pos c3] at hK' ⊢; exact ih (i + 1) _ _ _ _ (by omega) hK'
      · rw [if_neg c3] at hK' ⊢; exact ih (i + 1) _ _ _ _ (by omega) hK'
theorem lwF_cg {all : Int32} {h g : Nat → Int32} : ∀ (d i : Nat) (b p : Int32), (∀ j, i ≤ j → j < i + d → h j = g j) → lwF all h d i b p = lwF all g d i b p
  | 0, _, _, _, _ => rfl
  | d + 1, i, b, p, e => by
    show (if p ≤ (if h i < all - h i then all - h i else h i) then lwF all h d (i + 1) b p else lwF all h d (i + 1) (Int32.ofNat i) (if h i < all - h i then all - h i else h i)) = (if p ≤ (if g i < all - g i then all - g i else g i) then lwF all g d (i + 1) b p else lwF all g d (i + 1) (Int32.ofNat i) (if g i < all - g i then all - g i else g i))
    rw [e i (Nat.le_refl _) (by omega)]
    rw [lwF_cg d (i + 1) b p (fun j a b => e j (by omega) (by omega)), lwF_cg d (i + 1) (Int32.ofNat i) _ (fun j a b => e j (by omega) (by omega))]
/-- lands -/
theorem eq_lands {σ : St} {a b : Int32} (hJ : J3 σ) : CI 71 [.ref 0, .int a, .int b] σ (fun v1 σ1 => CI 177 [.ref 39, .int a, .int b] σ1 (fun v2 _ => v2 = v1)) := by
  obtain ⟨P, x, n, hx, hm, hu, hN, hi, hs, hb, hc, hB⟩ := hJ.b
  have h5 := hb.1
  have h12 := hx.1.2.1
  have p2 := p2_le h12
  have V := Vm1_of hN hs (fun (k j : Nat) (_ : 39 ≤ k) => (rfl : σ k j = σ k j))
  have no : ∀ {σ1 : St}, ¬ ((0 ≤ a ∧ a ≤ 12) ∧ (0 ≤ b ∧ b ≤ 2)) → CI 177 [.ref 39, .int a, .int b] σ1 (fun v2 _ => v2 = -1000000002) := fun h => w_177 (s_109 (b := 0) (c := 12) (ite10 (fun c1 => s_109 (b := 0) (c := 2) (ite10 (fun c2 => absurd ⟨c1, c2⟩ h) (fun _ => rfl))) (fun _ => rfl)))
  refine w_71 (s_91 (ite10 (fun c1 => s_91 (ite10 (fun c2 => ?_) (fun c2 => no (fun z => c2 z.2)))) (fun c1 => no (fun z => c1 z.1))))
  refine s_5 hx (fun m hm2 i hi2 => ?_) fun σ1 f1 hG => ?_
  · have := hB.2.2.1.2.1 m hm2 i hi2
    rw [cls5 (by omega)] at this
    exact this
  have m1 : MPl σ1 P := MPl_ex (fun k j hk => f1 k j (by omega) (by omega)) hm
  have ef : ∀ t, cbF (P.1 2) (σ1 46) a (Int32.ofNat t) = cbF (P.1 2) (σ 20) a (Int32.ofNat t) := fun t => by
    unfold cbF
    refine al2_cg _ _ (fun m _ hm2 => ?_)
    unfold cbG
    rw [f1 46 m (by omega) (by omega), V.s h5 (by omega), cls5 (by omega)]
  have cnt0 : cnt (fun t => decide (Int32.ofNat t &&& 0 = 0) && cbF (P.1 2) (σ1 46) a (Int32.ofNat t)) (2 ^ P.1 1) = cnt (fun t => cbF (P.1 2) (σ 20) a (Int32.ofNat t)) (2 ^ P.1 1) := cnt_cg _ fun t _ => by
    rw [decide_eq_true (and_z _), Bool.true_and, ef]
  have go : ∀ {v : Int32}, (if b = 0 then CI 174 [.ref 39, .int a, .int 0] σ1 (fun v5 _ => v5 = v) else (if b = 1 then CI 175 [.ref 39, .int a] σ1 (fun v4 _ => v4 = v) else CI 176 [.ref 39, .int a] σ1 (fun v3 _ => v3 = v))) → CI 177 [.ref 39, .int a, .int b] σ1 (fun v2 _ => v2 = v) := fun h => w_177 (s_109 (b := 0) (c := 12) (ite10 (fun _ => s_109 (b := 0) (c := 2) (ite10 (fun _ => h) (fun z => absurd c2 z))) (fun z => absurd c1 z)))
  obtain ⟨g0, g1, g2⟩ := hG
  have cle := cnt_le (fun t => cbF (P.1 2) (σ 20) a (Int32.ofNat t)) (2 ^ P.1 1)
  have ia : ∀ {K : Int32 → St → Prop}, K (if cnt (fun t => cbF (P.1 2) (σ 20) a (Int32.ofNat t)) (2 ^ P.1 1) = 0 then -1 else iaF (fun t => cbF (P.1 2) (σ 20) a (Int32.ofNat t)) ((1 <<< (Int32.ofNat (P.1 1) &&& 31)) - 1) (2 ^ P.1 1)) σ1 → CI 175 [.ref 39, .int a] σ1 K := fun hK => w_175 (s_175l (f := fun t => cbF (P.1 2) (σ 20) a (Int32.ofNat t)) hx.1 m1 (fun t _ => (ef t).symm) hK (2 ^ P.1 1) 0 (by omega))
  have lw : ∀ {K : Int32 → St → Prop}, K (lwF (σ1 37 0) (σ1 38) (P.1 1) 0 (-1) (σ1 37 0)) σ1 → CI 176 [.ref 39, .int a] σ1 K := fun hK => by
    refine w_176 (s_174 hx.1 m1 ?_)
    rw [cnt0, ← g0]
    refine s_176l (h := σ1 38) hx.1 m1 (fun l hl => ?_) (P.1 1) 0 (-1) (σ1 37 0) none none (by omega) hK
    rw [g2 l hl]
    refine congrArg Int32.ofNat (cnt_cg _ fun t _ => ?_)
    unfold hvF
    rw [and_1 (by omega), ef, Bool.and_comm]
  by_cases b0 : b = 0
  · rw [if_pos b0]
    refine go ?_
    rw [if_pos b0]
    refine s_174 hx.1 m1 ?_
    rw [cnt0, g0]
  · rw [if_neg b0]
    have z0 : (σ1 37 0 = 0) ↔ cnt (fun t => cbF (P.1 2) (σ 20) a (Int32.ofNat t)) (2 ^ P.1 1) = 0 := by rw [g0]; exact of_z (by omega)
    by_cases z : σ1 37 0 = 0
    · rw [if_pos z]
      refine go ?_
      rw [if_neg b0]
      by_cases b1 : b = 1
      · rw [if_pos b1]
        refine ia ?_
        rw [if_pos (z0.mp z)]
      · rw [if_neg b1]
        refine lw ?_
        -- no set fits: nothing parts them
        have hz : ∀ j, j < P.1 1 → σ1 38 j = 0 := fun j hj => by
          rw [g2 j hj, show cnt (hvF (fun t => cbF (P.1 2) (σ 20) a (Int32.ofNat t)) j) (2 ^ P.1 1) = 0 from by
            have m := cnt_mono (f := hvF (fun t => cbF (P.1 2) (σ 20) a (Int32.ofNat t)) j) (g := fun t => cbF (P.1 2) (σ 20) a (Int32.ofNat t)) (fun t ht => by unfold hvF at ht; rw [Bool.and_eq_true] at ht; exact ht.1) (2 ^ P.1 1)
            have := z0.mp z
            omega]
          rfl
        rw [z, lwF_cg (g := fun _ => 0) _ _ _ _ (fun j _ hj => hz j (by omega))]
        have zz : ∀ d i, lwF 0 (fun _ => 0) d i (-1) 0 = -1 := fun d => by
          induction d with
          | zero => intro i; rfl
          | succ d ih =>
            intro i
            show (if (0 : Int32) ≤ (if (0 : Int32) < 0 - 0 then 0 - 0 else 0) then lwF 0 (fun _ => 0) d (i + 1) (-1) 0 else lwF 0 (fun _ => 0) d (i + 1) (Int32.ofNat i) (if (0 : Int32) < 0 - 0 then 0 - 0 else 0)) = -1
            rw [if_pos (by decide)]
            exact ih (i + 1)
        exact zz _ _
    · rw [if_neg z]
      have nz := fun w => z (z0.mpr w)
      by_cases b1 : b = 1
      · rw [if_pos b1]
        refine go ?_
        rw [if_neg b0, if_pos b1]
        refine ia ?_
        rw [if_neg nz, g1]
      · rw [if_neg b1, (f1 11 1 (by omega) (by omega)).trans hx.2.2.1]
        refine w_8 (s_8l h12 (P.1 1) 0 (-1) (σ1 37 0) none (by omega) (go ?_))
        rw [if_neg b0, if_neg b1]
        exact lw rfl
