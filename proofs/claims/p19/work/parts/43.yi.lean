/-! duty -/
def lnD (k d : Int32) : Int32 := if k = 1 then 2 * d else if k = 2 then d / 2 else if k = 3 then (if d < 1 then d else 1) else d
def dtl (k sh land d : Int32) (l : Nat) : Int32 := bif bt sh l then (bif bt land l then lnD k d else 0) else (bif bt land l then 0 else (if k = 4 then d / 3 else 0))
def smm (f : Nat → Int32) : Nat → Nat → Int32 → Int32
  | 0, _, x => x
  | d + 1, i, x => smm f d (i + 1) (x + f i)
def dty (P : PS) (k sh land : Int32) : Int32 := smm (fun l => dtl k sh land (P.2.2 2 l) l) (P.1 1) 0 0
theorem ad_z (x : Int32) : x + 0 = x := Int32.add_zero x
theorem s_18p {σ : St} {l : Nat} {K : Int32 → St → Prop} (hl : l < 12) (hK : K (σ 14 l) σ) : CI 18 [.ref 11, .int (Int32.ofNat l)] σ K := by
  have l0 : (0 : Int32).toInt = 0 := rfl
  have l12 : (12 : Int32).toInt = 12 := rfl
  refine w_18_11 ?_
  rw [if_neg (by rw [Int32.lt_iff_toInt_lt, ti_of (by omega), l0]; omega), if_neg (by rw [Int32.le_iff_toInt_le, ti_of (by omega), l12]; omega), tc_of (by omega)]
  exact ⟨by rw [ti_of (by omega)]; omega, hK⟩
theorem s_19 {σ : St} {k : Int32} {l : Nat} {K : Int32 → St → Prop} (hl : l < 12) (hK : K (lnD k (σ 14 l)) σ) : CI 19 [.ref 11, .int k, .int (Int32.ofNat l)] σ K := by
  refine w_19 (s_18p hl ?_)
  unfold lnD at hK
  by_cases k1 : k = 1
  · rw [if_pos k1] at hK ⊢; exact hK
  · rw [if_neg k1] at hK ⊢
    by_cases k2 : k = 2
    · rw [if_pos k2] at hK ⊢; exact hK
    · rw [if_neg k2] at hK ⊢
      by_cases k3 : k = 3
      · rw [if_pos k3] at hK ⊢; exact hK
      · rw [if_neg k3] at hK ⊢; exact hK
theorem s_20l {σ : St} {P : PS} {k sh land : Int32} {K : Int32 → St → Prop} (hx : XP σ P) : ∀ (d i : Nat) (x : Int32) (o : Option Value), i + d = P.1 1 → K (smm (fun l => dtl k sh land (P.2.2 2 l) l) d i x) σ → PI 20 6 [some (.ref 11), some (.int k), some (.int sh), some (.int land), some (.int x), some (.int (Int32.ofNat i)), o] [] σ K := by
  have h12 := hx.1.2.1
  intro d
  induction d with
  | zero =>
    intro i x o hi hK
    refine w_20_6 ?_
    rw [hx.2.2.1, if_pos (by rw [Int32.le_iff_toInt_le, ti_of (by omega), ti_of (by omega)]; omega)]
    exact hK
  | succ d ih =>
    intro i x o hi hK
    have e14 := (hx.2.2.2.2.2.1 i (by omega)).2.2
    have hK' : K (smm (fun l => dtl k sh land (P.2.2 2 l) l) d (i + 1) (x + dtl k sh land (P.2.2 2 i) i)) σ := hK
    refine w_20_6 ?_
    rw [hx.2.2.1, if_neg (by rw [Int32.le_iff_toInt_le, ti_of (by omega), ti_of (by omega)]; omega)]
    refine s_92 (by omega) ?_
    rw [of_s]
    unfold dtl at hK'
    cases hs : bt sh i with
    | true =>
      rw [hs, cond_true] at hK'
      have b1 : b01 sh i = 1 := b01_1.mpr hs
      rw [if_pos b1]
      refine s_92 (by omega) ?_
      cases ht : bt land i with
      | true =>
        rw [ht, cond_true] at hK'
        rw [if_pos (b01_1.mpr ht)]
        refine s_19 (by omega) ?_
        rw [e14]
        exact ih (i + 1) _ _ (by omega) hK'
      | false =>
        rw [ht, cond_false, ad_z] at hK'
        rw [if_neg (by rw [b01_0.mpr ht]; decide)]
        have go := ih (i + 1) x (some (.int (b01 sh i))) (by omega) hK'
        split
        · rw [if_neg (by rw [b1]; decide)]; exact go
        · exact go
    | false =>
      rw [hs, cond_false] at hK'
      have b0 : b01 sh i = 0 := b01_0.mpr hs
      rw [if_neg (by rw [b0]; decide)]
      by_cases k4 : k = 4
      · rw [if_pos k4, if_pos b0]
        rw [if_pos k4] at hK'
        refine s_92 (by omega) ?_
        cases ht : bt land i with
        | true =>
          rw [ht, cond_true, ad_z] at hK'
          rw [if_neg (by rw [b01_1.mpr ht]; decide)]
          exact ih (i + 1) x _ (by omega) hK'
        | false =>
          rw [ht, cond_false] at hK'
          rw [if_pos (b01_0.mpr ht)]
          refine ⟨by rw [ti_of (by omega)]; omega, ?_⟩
          rw [tc_of (by omega), e14]
          exact ih (i + 1) _ _ (by omega) hK'
      · rw [if_neg k4]
        rw [if_neg k4] at hK'
        refine ih (i + 1) x _ (by omega) ?_
        cases ht : bt land i with
        | true => rw [ht, cond_true, ad_z] at hK'; exact hK'
        | false => rw [ht, cond_false, ad_z] at hK'; exact hK'
theorem s_20 {σ : St} {P : PS} {k sh land : Int32} {K : Int32 → St → Prop} (hx : XP σ P) (hK : K (dty P k sh land) σ) : CI 20 [.ref 11, .int k, .int sh, .int land] σ K := w_20 (s_20l hx (P.1 1) 0 0 none (by omega) hK)
theorem s_95 {σ : St} {P : PS} {m : Nat} {K : Int32 → St → Prop} (hx : XP σ P) (hm : m < P.1 2) (hK : K (dty P (P.2.2 3 m) (σ 20 m) (σ 19 0)) σ) : CI 95 [.ref 0, .int (Int32.ofNat m)] σ K := by
  have h5 := hx.1.2.2.1
  have ri : inR (P.1 2) (Int32.ofNat m) := by unfold inR; rw [ti_of (by omega)]; omega
  refine w_95 (s_86 hx.2.2.2.1 h5 (ite10 (fun _ => ⟨by rw [ti_of (by omega)]; omega, ?_⟩) (fun c => absurd ri c)))
  rw [tc_of (by omega), hx.2.2.2.2.2.2.1 m hm]
  exact s_20 hx hK
/-- the reference -/
def PQd (P : PS) : Prop := ∀ l, l < P.1 1 → 0 ≤ (P.2.2 2 l).toInt ∧ (P.2.2 2 l).toInt ≤ 50
theorem s_134 {σ : St} {k d sh land : Int32} {l : Nat} {K : Int32 → St → Prop} (hl : l < 12) (e : σ 42 l = d) (h0 : 0 ≤ d.toInt) (hK : K (dtl k sh land d l) σ) : CI 134 [.ref 39, .int k, .int (Int32.ofNat l), .int (b01 sh l), .int (b01 land l)] σ K := by
  have l0 : (0 : Int32).toInt = 0 := rfl
  have l1 : (1 : Int32).toInt = 1 := rfl
  have bd : 0 ≤ (Int32.ofNat l).toInt ∧ (Int32.ofNat l).toInt < 12 := by rw [ti_of (by omega)]; omega
  refine w_134 ?_
  rw [tc_of (by omega), e]
  unfold dtl at hK
  cases hs : bt sh l with
  | true =>
    rw [hs, cond_true] at hK
    rw [if_neg (by rw [b01_1.mpr hs]; decide)]
    cases ht : bt land l with
    | true =>
      rw [ht, cond_true] at hK
      rw [if_neg (by rw [b01_1.mpr ht]; decide)]
      unfold lnD at hK
      by_cases k1 : k = 1
      · rw [if_pos k1] at hK ⊢; exact ⟨bd, hK⟩
      · rw [if_neg k1] at hK ⊢
        by_cases k2 : k = 2
        · rw [if_pos k2] at hK ⊢; exact ⟨bd, hK⟩
        · rw [if_neg k2] at hK ⊢
          by_cases k3 : k = 3
          · rw [if_pos k3] at hK ⊢
            refine ⟨bd, ?_⟩
            by_cases c : d ≤ 0
            · rw [if_pos c]
              rw [Int32.le_iff_toInt_le, l0] at c
              have d0 : d = 0 := ti_inj (by rw [l0]; omega)
              rw [d0, if_pos (by decide)] at hK
              exact hK
            · rw [if_neg c]
              rw [Int32.le_iff_toInt_le, l0] at c
              rw [if_neg (by rw [Int32.lt_iff_toInt_lt, l1]; omega)] at hK
              exact hK
          · rw [if_neg k3] at hK ⊢; exact ⟨bd, hK⟩
    | false =>
      rw [ht, cond_false] at hK
      rw [if_pos (b01_0.mpr ht)]
      split
      · rw [if_neg (by rw [b01_1.mpr hs]; decide)]; exact hK
      · exact hK
  | false =>
    rw [hs, cond_false] at hK
    rw [if_pos (b01_0.mpr hs)]
    by_cases k4 : k = 4
    · rw [if_pos k4, if_pos (b01_0.mpr hs)]
      rw [if_pos k4] at hK
      cases ht : bt land l with
      | true => rw [ht, cond_true] at hK; rw [if_neg (by rw [b01_1.mpr ht]; decide)]; exact hK
      | false => rw [ht, cond_false] at hK; rw [if_pos (b01_0.mpr ht)]; exact ⟨bd, hK⟩
    · rw [if_neg k4]
      rw [if_neg k4] at hK
      cases ht : bt land l with
      | true => rw [ht, cond_true] at hK; exact hK
      | false => rw [ht, cond_false] at hK; exact hK
theorem s_135l {σ : St} {P : PS} {k sh : Int32} {K : Int32 → St → Prop} (hb : PB P) (hm : MPl σ P) (hq : PQd P) : ∀ (d i : Nat) (x : Int32), i + d = P.1 1 → K (smm (fun l => dtl k sh (σ 46 10) (P.2.2 2 l) l) d i x) σ → PI 135 5 [some (.ref 39), some (.int k), some (.int sh), some (.int x), some (.int (Int32.ofNat i))] [] σ K := by
  have h12 := hb.2.1
  intro d
  induction d with
  | zero =>
    intro i x hi hK
    refine w_135_5 ?_
    rw [hm.2.1, if_pos (by rw [Int32.le_iff_toInt_le, ti_of (by omega), ti_of (by omega)]; omega)]
    exact hK
  | succ d ih =>
    intro i x hi hK
    refine w_135_5 ?_
    rw [hm.2.1, if_neg (by rw [Int32.le_iff_toInt_le, ti_of (by omega), ti_of (by omega)]; omega)]
    refine s_110 (by omega) (s_110 (by omega) (s_134 (by omega) (hm.2.2.2.2.1 i (by omega)).2.2 (hq i (by omega)).1 ?_))
    rw [of_s]
    exact ih (i + 1) _ (by omega) hK
theorem s_135 {σ : St} {P : PS} {k sh : Int32} {K : Int32 → St → Prop} (hb : PB P) (hm : MPl σ P) (hq : PQd P) (hK : K (dty P k sh (σ 46 10)) σ) : CI 135 [.ref 39, .int k, .int sh] σ K := w_135 (s_135l hb hm hq (P.1 1) 0 0 (by omega) hK)
theorem s_136 {σ : St} {P : PS} {m : Nat} {K : Int32 → St → Prop} (hb : PB P) (hm : MPl σ P) (hq : PQd P) (h : m < P.1 2) (hK : K (dty P (P.2.2 3 m) (σ 46 m) (σ 46 10)) σ) : CI 136 [.ref 39, .int (Int32.ofNat m)] σ K := by
  have h5 := hb.2.2.1
  refine w_136 ⟨by rw [ti_of (by omega)]; omega, ?_⟩
  rw [tc_of (by omega), hm.2.2.2.2.2.1 m h]
  exact s_135 hb hm hq hK
