/-! least: journeys, the two searches -/
theorem CI.get {y : Nat} {vs : List Value} {σ : St} {p : Prop} (h : CI y vs σ (fun _ _ => p)) : p := by
  obtain ⟨n, h⟩ := h
  obtain ⟨r, σ', ⟨_, _, q⟩, -⟩ := pw_det n _ _ _ _ _ _ _ h
  exact q
theorem rs_ex {σ : St} {P : PS} {w : Int32} {a : Nat} (hx : XP σ P) (hP : PG P) (ha : a < P.1 0) : RsC P w a (rs P w a) := (s_37 (K := fun _ _ => RsC P w a (rs P w a)) hx hP ha (fun h => h)).get
theorem rs_mono {P : PS} {w w' r r' : Int32} {a i : Nat} (h : RsC P w a r) (k : RsC P w' a r') (hs : ∀ l, l < P.1 1 → inB w l → inB w' l) (hi : bt r i = true) : bt r' i = true := h.2.2 r' k.1 (fun l hl hb => k.2.1 l hl (hs l hl hb)) i hi
noncomputable def mkW (P : PS) (n : Nat) (st gl : Nat → Nat) (w : Int32) : Bool := al2 (fun j => bt (rs P w (st j)) (gl j)) n 0
theorem al2_mono {g h : Nat → Bool} : ∀ d i, (∀ j, i ≤ j → j < i + d → g j = true → h j = true) → al2 g d i = true → al2 h d i = true
  | 0, _, _, _ => rfl
  | d + 1, i, e, z => by
    have z' : (g i && al2 g d (i + 1)) = true := z
    show (h i && al2 h d (i + 1)) = true
    rw [Bool.and_eq_true] at z' ⊢
    exact ⟨e i (Nat.le_refl _) (by omega) z'.1, al2_mono d (i + 1) (fun j a b => e j (by omega) (by omega)) z'.2⟩
def JR (σ : St) (P : PS) (n : Nat) (st gl : Nat → Nat) (k1 k2 : Nat) : Prop := ∀ j, j < n → σ k1 j = Int32.ofNat (st j) ∧ st j < P.1 0 ∧ σ k2 j = Int32.ofNat (gl j) ∧ gl j < P.1 0
theorem s_4l {σ : St} {P : PS} {n : Nat} {st gl : Nat → Nat} {w : Int32} {K : Int32 → St → Prop} (hx : XP σ P) (hP : PG P) (hn : n ≤ 4) (e : σ 29 0 = Int32.ofNat n) (hj : JR σ P n st gl 30 31) : ∀ d i, i + d = n → K (bif al2 (fun j => bt (rs P w (st j)) (gl j)) d i then 1 else 0) σ → PI 4 2 [some (.ref 29), some (.ref 27), some (.int w), some (.int (Int32.ofNat i))] [] σ K := by
  have h8 := hP.1.1
  intro d
  induction d with
  | zero =>
    intro i hi hK
    refine w_4_2 ?_
    rw [e, if_pos (by rw [Int32.le_iff_toInt_le, ti_of (by omega), ti_of (by omega)]; omega)]
    exact hK
  | succ d ih =>
    intro i hi hK
    obtain ⟨a1, a2, a3, a4⟩ := hj i (by omega)
    have hK' : K (bif bt (rs P w (st i)) (gl i) && al2 (fun j => bt (rs P w (st j)) (gl j)) d (i + 1) then 1 else 0) σ := hK
    refine w_4_2 ?_
    rw [e, if_neg (by rw [Int32.le_iff_toInt_le, ti_of (by omega), ti_of (by omega)]; omega)]
    refine ⟨by rw [ti_of (by omega)]; omega, ?_⟩
    rw [tc_of (by omega), a1]
    refine s_37 hx hP a2 (fun _ => ?_)
    rw [a3]
    refine s_92 (by omega) ?_
    rw [of_s]
    cases h : bt (rs P w (st i)) (gl i) with
    | false =>
      rw [if_pos (b01_0.mpr h)]
      rw [h, Bool.false_and, cond_false] at hK'
      exact hK'
    | true =>
      rw [if_neg (by rw [b01_1.mpr h]; decide)]
      rw [h, Bool.true_and] at hK'
      exact ih (i + 1) (by omega) hK'
theorem s_4 {σ : St} {P : PS} {n : Nat} {st gl : Nat → Nat} {w : Int32} {K : Int32 → St → Prop} (hx : XP σ P) (hP : PG P) (hn : n ≤ 4) (e : σ 29 0 = Int32.ofNat n) (hj : JR σ P n st gl 30 31) (hK : K (bif mkW P n st gl w then 1 else 0) σ) : CI 4 [.ref 29, .ref 27, .int w] σ K := w_4 (s_4l hx hP hn e hj n 0 (by omega) hK)
theorem s_171l {σ : St} {P : PS} {n : Nat} {st gl : Nat → Nat} {w : Int32} {K : Int32 → St → Prop} (hm : MPl σ P) (hP : PG P) (hn : n ≤ 4) (e : σ 39 34 = Int32.ofNat n) (hj : JR σ P n st gl 57 58) : ∀ (d i : Nat) (t : Bool), i + d = n → K (bif t && al2 (fun j => bt (rs P w (st j)) (gl j)) d i then 1 else 0) σ → PI 171 4 [some (.ref 39), some (.int w), some (.int (bif t then 1 else 0)), some (.int (Int32.ofNat i))] [] σ K := by
  have h8 := hP.1.1
  intro d
  induction d with
  | zero =>
    intro i t hi hK
    refine w_171_4 ?_
    rw [e, if_pos (by rw [Int32.le_iff_toInt_le, ti_of (by omega), ti_of (by omega)]; omega)]
    have hK' : K (bif t && true then 1 else 0) σ := hK
    rw [Bool.and_true] at hK'
    refine ⟨?_, hK'⟩
    cases t
    · exact Or.inl rfl
    · exact Or.inr rfl
  | succ d ih =>
    intro i t hi hK
    obtain ⟨a1, a2, a3, a4⟩ := hj i (by omega)
    have hK' : K (bif t && (bt (rs P w (st i)) (gl i) && al2 (fun j => bt (rs P w (st j)) (gl j)) d (i + 1)) then 1 else 0) σ := hK
    refine w_171_4 ?_
    rw [e, if_neg (by rw [Int32.le_iff_toInt_le, ti_of (by omega), ti_of (by omega)]; omega)]
    cases t with
    | false =>
      rw [cond_false, if_pos rfl]
      rw [Bool.false_and, cond_false] at hK'
      exact ⟨Or.inl rfl, hK'⟩
    | true =>
      rw [cond_true, if_neg (by decide)]
      refine ⟨by rw [ti_of (by omega)]; omega, ?_⟩
      rw [tc_of (by omega), a1, a3, of_s]
      refine s_140 hm hP a2 a4 ?_
      rw [Bool.true_and] at hK'
      exact ih (i + 1) (bt (rs P w (st i)) (gl i)) (by omega) hK'
theorem s_171 {σ : St} {P : PS} {n : Nat} {st gl : Nat → Nat} {w : Int32} {K : Int32 → St → Prop} (hm : MPl σ P) (hP : PG P) (hn : n ≤ 4) (e : σ 39 34 = Int32.ofNat n) (hj : JR σ P n st gl 57 58) (hK : K (bif mkW P n st gl w then 1 else 0) σ) : CI 171 [.ref 39, .int w] σ K := w_171 (s_171l hm hP hn e hj n 0 true (by omega) (by rw [Bool.true_and]; exact hK))
/-! the search, pure -/
def lsF (sub mk : Nat → Bool) (D : Nat → Int32) : Nat → Nat → Int32 → Int32 → Int32 × Int32
  | 0, _, b, l => (b, l)
  | d + 1, i, b, l => bif sub i && (decide (D i < l) && mk i) then lsF sub mk D d (i + 1) (Int32.ofNat i) (D i) else lsF sub mk D d (i + 1) b l
theorem lsF_y {sub mk : Nat → Bool} {D : Nat → Int32} {d i : Nat} {b l : Int32} (h1 : sub i = true) (h2 : D i < l) (h3 : mk i = true) : lsF sub mk D (d + 1) i b l = lsF sub mk D d (i + 1) (Int32.ofNat i) (D i) := by
  show (bif sub i && (decide (D i < l) && mk i) then _ else _) = _
  rw [h1, decide_eq_true h2, h3]
  rfl
theorem lsF_n {sub mk : Nat → Bool} {D : Nat → Int32} {d i : Nat} {b l : Int32} (h : sub i = false ∨ ¬ D i < l ∨ mk i = false) : lsF sub mk D (d + 1) i b l = lsF sub mk D d (i + 1) b l := by
  show (bif sub i && (decide (D i < l) && mk i) then _ else _) = _
  rcases h with h | h | h
  · rw [h]; rfl
  · rw [decide_eq_false h, Bool.false_and, Bool.and_false]; rfl
  · rw [h, Bool.and_false, Bool.and_false]; rfl
theorem lsF_sk {sub mk : Nat → Bool} {D : Nat → Int32} {d : Nat} {b l : Int32} : ∀ (e a : Nat), (∀ i, a ≤ i → i < a + e → sub i = false) → lsF sub mk D (e + d) a b l = lsF sub mk D d (a + e) b l
  | 0, a, _ => by rw [Nat.zero_add]; rfl
  | e + 1, a, h => by
    rw [show e + 1 + d = (e + d) + 1 by omega, lsF_n (Or.inl (h a (Nat.le_refl _) (by omega))), lsF_sk e (a + 1) (fun i x y => h i (by omega) (by omega)), show a + 1 + e = a + (e + 1) by omega]
theorem lsF_no {sub mk : Nat → Bool} {D : Nat → Int32} {b l : Int32} : ∀ (d a : Nat), (∀ i, a ≤ i → i < a + d → sub i = true → mk i = false) → lsF sub mk D d a b l = (b, l)
  | 0, _, _ => rfl
  | d + 1, a, h => by
    have : sub a = false ∨ ¬ D a < l ∨ mk a = false := by
      cases hs : sub a with
      | false => exact Or.inl rfl
      | true => exact Or.inr (Or.inr (h a (Nat.le_refl _) (by omega) hs))
    rw [lsF_n this, lsF_no d (a + 1) (fun i x y => h i (by omega) (by omega))]
section Search
variable {sub mk : Nat → Bool} {D W : Nat → Int32} {c : Int32} {ld : Nat}
theorem ls_A (h : ∀ i, sub i = true → D i = W i + c ∧ 0 ≤ (W i).toInt ∧ (W i).toInt ≤ 1200) (hc : 0 ≤ c.toInt ∧ c.toInt ≤ 1200) : ∀ (d i s : Nat), i + d ≤ 4096 → sub s = true → s < 4096 → ∃ s', sub s' = true ∧ s' < 4096 ∧ lsF sub mk D d i (Int32.ofNat s) (D s) = (Int32.ofNat s', D s') ∧ lsF sub mk W d i (Int32.ofNat s) (W s) = (Int32.ofNat s', W s') := by
  have key : ∀ i s, sub i = true → sub s = true → (D i < D s ↔ W i < W s) := fun i s hi hs => by
    obtain ⟨e1, a1, a2⟩ := h i hi
    obtain ⟨e2, b1, b2⟩ := h s hs
    rw [e1, e2, Int32.lt_iff_toInt_lt, Int32.lt_iff_toInt_lt, ti_add (by omega) (by omega), ti_add (by omega) (by omega)]
    omega
  intro d
  induction d with
  | zero => intro i s _ hs h4; exact ⟨s, hs, h4, rfl, rfl⟩
  | succ d ih =>
    intro i s hd hs h4
    cases hi : sub i with
    | false =>
      rw [lsF_n (Or.inl hi), lsF_n (Or.inl hi)]
      exact ih (i + 1) s (by omega) hs h4
    | true =>
      by_cases q : W i < W s ∧ mk i = true
      · rw [lsF_y hi ((key i s hi hs).mpr q.1) q.2, lsF_y hi q.1 q.2]
        exact ih (i + 1) i (by omega) hi (by omega)
      · by_cases w : W i < W s
        · have mf : mk i = false := by
            cases hm : mk i with
            | false => rfl
            | true => exact absurd ⟨w, hm⟩ q
          rw [lsF_n (Or.inr (Or.inr mf)), lsF_n (Or.inr (Or.inr mf))]
          exact ih (i + 1) s (by omega) hs h4
        · rw [lsF_n (Or.inr (Or.inl (fun z => w ((key i s hi hs).mp z)))), lsF_n (Or.inr (Or.inl w))]
          exact ih (i + 1) s (by omega) hs h4
theorem ls_B (h : ∀ i, sub i = true → D i = W i + c ∧ 0 ≤ (W i).toInt ∧ (W i).toInt ≤ 1200) (hc : 0 ≤ c.toInt ∧ c.toInt ≤ 1200) (hle : ∀ i, sub i = true → (W i).toInt ≤ (W ld).toInt) (hs : sub ld = true) (hm : mk ld = true) : ∀ (d i : Nat), i + d ≤ 4096 → i ≤ ld → ld < i + d → ∃ s', sub s' = true ∧ s' < 4096 ∧ lsF sub mk D d i (-1) 1000000 = (Int32.ofNat s', D s') ∧ lsF sub mk W d i (Int32.ofNat ld) (W ld + 1) = (Int32.ofNat s', W s') := by
  have lf : (1000000 : Int32).toInt = 1000000 := rfl
  have l1 : (1 : Int32).toInt = 1 := rfl
  intro d
  induction d with
  | zero => intro i _ h1 h2; omega
  | succ d ih =>
    intro i hd h1 h2
    have skip : ¬ i = ld → (sub i = false ∨ ¬ D i < 1000000 ∨ mk i = false) → (sub i = false ∨ ¬ W i < W ld + 1 ∨ mk i = false) → ∃ s', sub s' = true ∧ s' < 4096 ∧ lsF sub mk D (d + 1) i (-1) 1000000 = (Int32.ofNat s', D s') ∧ lsF sub mk W (d + 1) i (Int32.ofNat ld) (W ld + 1) = (Int32.ofNat s', W s') := fun ne a b => by
      rw [lsF_n a, lsF_n b]
      exact ih (i + 1) (by omega) (by omega) (by omega)
    cases hi : sub i with
    | false => exact skip (fun e => by rw [e, hs] at hi; cases hi) (Or.inl hi) (Or.inl hi)
    | true =>
      cases hk : mk i with
      | false => exact skip (fun e => by rw [e, hm] at hk; cases hk) (Or.inr (Or.inr hk)) (Or.inr (Or.inr hk))
      | true =>
        obtain ⟨e1, a1, a2⟩ := h i hi
        obtain ⟨-, b1, b2⟩ := h ld hs
        have le := hle i hi
        rw [lsF_y hi (by rw [e1, Int32.lt_iff_toInt_lt, lf, ti_add (by omega) (by omega)]; omega) hk, lsF_y hi (by rw [Int32.lt_iff_toInt_lt, ti_add (by rw [l1]; omega) (by rw [l1]; omega), l1]; omega) hk]
        exact ls_A h hc d (i + 1) i (by omega) hi (by omega)
end Search
/-! what a set owes: what it weighs, and the same for all -/
theorem smm_mono {f g : Nat → Int32} : ∀ (d i : Nat) (x y : Int32), (∀ j, i ≤ j → j < i + d → 0 ≤ (f j).toInt ∧ (f j).toInt ≤ (g j).toInt ∧ (g j).toInt ≤ 100) → 0 ≤ x.toInt → x.toInt ≤ y.toInt → y.toInt + 100 * (d : Int) ≤ 2000000 → (smm f d i x).toInt ≤ (smm g d i y).toInt
  | 0, _, _, _, _, _, h, _ => h
  | d + 1, i, x, y, h, h0, h1, h2 => by
    have q := h i (Nat.le_refl _) (by omega)
    have e1 : (x + f i).toInt = x.toInt + (f i).toInt := ti_add (by omega) (by omega)
    have e2 : (y + g i).toInt = y.toInt + (g i).toInt := ti_add (by omega) (by omega)
    exact smm_mono d (i + 1) (x + f i) (y + g i) (fun j a b => h j (by omega) (by omega)) (by omega) (by omega) (by omega)
theorem lnD_b {k d : Int32} (h0 : 0 ≤ d.toInt) (h1 : d.toInt ≤ 50) : 0 ≤ (lnD k d).toInt ∧ (lnD k d).toInt ≤ 100 := by
  have := dtl_b (k := k) (sh := -1) (land := -1) (d := d) (l := 0) h0 h1
  have e : dtl k (-1) (-1) d 0 = lnD k d := by
    unfold dtl
    rw [b_m1 0 (by omega)]
    rfl
  rw [e] at this
  exact this
theorem tb_big {s L l : Nat} (hs : s < 2 ^ L) (hl : L ≤ l) : s.testBit l = false := Nat.testBit_lt_two_pow (Nat.lt_of_lt_of_le hs (Nat.pow_le_pow_right (by omega) hl))
theorem sb_bit {s ld l : Nat} (h : s &&& ld = s) (hb : s.testBit l = true) : ld.testBit l = true := by
  rw [← h, Nat.testBit_and, Bool.and_eq_true] at hb
  exact hb.2
section Weights
variable {P : PS} {k : Int32} {g : Nat → Int32}
theorem wt_f (hb : PB P) (hq : PQd P) (hg : ∀ l, l < P.1 1 → g l = lnD k (P.2.2 2 l)) {s l : Nat} (hs : s < 2 ^ P.1 1) : 0 ≤ (bif s.testBit l then g l else 0).toInt ∧ (bif s.testBit l then g l else 0).toInt ≤ 100 := by
  cases hl : s.testBit l with
  | false => rw [cond_false]; decide
  | true =>
    rw [cond_true]
    have lt : l < P.1 1 := Classical.byContradiction fun z => by rw [tb_big hs (by omega)] at hl; cases hl
    rw [hg l lt]
    exact lnD_b (hq l lt).1 (hq l lt).2
theorem wt_b (hb : PB P) (hq : PQd P) (hg : ∀ l, l < P.1 1 → g l = lnD k (P.2.2 2 l)) {s : Nat} (hs : s < 2 ^ P.1 1) : 0 ≤ (wtN g s).toInt ∧ (wtN g s).toInt ≤ 1200 := by
  have l0 : (0 : Int32).toInt = 0 := rfl
  have := smm_b (f := fun l => bif s.testBit l then g l else 0) 12 0 0 (fun j _ _ => wt_f hb hq hg hs) (by decide) (by rw [l0]; omega)
  rw [l0] at this
  unfold wtN
  omega
theorem wt_m (hb : PB P) (hq : PQd P) (hg : ∀ l, l < P.1 1 → g l = lnD k (P.2.2 2 l)) {s ld : Nat} (hs : s < 2 ^ P.1 1) (hl : ld < 2 ^ P.1 1) (h : s &&& ld = s) : (wtN g s).toInt ≤ (wtN g ld).toInt := by
  have l0 : (0 : Int32).toInt = 0 := rfl
  refine smm_mono 12 0 0 0 (fun j _ _ => ⟨(wt_f hb hq hg hs).1, ?_, (wt_f hb hq hg hl).2⟩) (by decide) (Int.le_refl _) (by rw [l0]; omega)
  cases hj : s.testBit j with
  | false => rw [cond_false]; exact (wt_f hb hq hg hl).1
  | true => rw [sb_bit h hj]; exact Int.le_refl _
def csN (P : PS) (k : Int32) (ld : Nat) : Int32 := smm (fun l => bif ld.testBit l then 0 else (if k = 4 then P.2.2 2 l / 3 else 0)) (P.1 1) 0 0
theorem cs_b (hb : PB P) (hq : PQd P) (ld : Nat) : 0 ≤ (csN P k ld).toInt ∧ (csN P k ld).toInt ≤ 1200 := by
  have h12 := hb.2.1
  have l0 : (0 : Int32).toInt = 0 := rfl
  have l3 : (3 : Int32).toInt = 3 := rfl
  have := smm_b (f := fun l => bif ld.testBit l then 0 else (if k = 4 then P.2.2 2 l / 3 else 0)) (P.1 1) 0 0 (fun j _ hj => by
    cases ld.testBit j with
    | true => rw [cond_true]; decide
    | false =>
      rw [cond_false]
      split
      · have q := hq j (by omega)
        have e := div32 (x := P.2.2 2 j) (y := 3) q.1 (by rw [l3]; omega)
        rw [l3] at e
        omega
      · decide) (by decide) (by rw [l0]; omega)
  rw [l0] at this
  unfold csN
  omega
theorem dty_w (hb : PB P) (hg : ∀ l, l < P.1 1 → g l = lnD k (P.2.2 2 l)) {s ld : Nat} (hs : s < 2 ^ P.1 1) (h : s &&& ld = s) : dty P k (Int32.ofNat s) (Int32.ofNat ld) = wtN g s + csN P k ld := by
  have h12 := hb.2.1
  have e : wtN g s = smm (fun l => bif s.testBit l then g l else 0) (P.1 1) 0 0 := by
    unfold wtN
    rw [show (12 : Nat) = P.1 1 + (12 - P.1 1) by omega, smm_cat, smm_z]
    intro j h1 _
    rw [tb_big hs (by omega), cond_false]
  rw [e]
  unfold dty csN
  rw [← smm_add]
  refine smm_cg _ _ _ (fun l _ hl => ?_)
  unfold dtl
  rw [bt_of (by omega), bt_of (by omega)]
  cases h1 : s.testBit l with
  | true =>
    rw [sb_bit h h1, cond_true, cond_true, cond_true, cond_true, hg l (by omega), ad_z]
  | false =>
    rw [cond_false, cond_false, Int32.zero_add]
end Weights
theorem sub_i {i ld : Nat} (hi : i < 4096) (hl : ld < 4096) : (Int32.ofNat i &&& (Int32.ofNat ld ^^^ (-1)) = 0) ↔ i &&& ld = i := by
  constructor
  · intro z
    refine Nat.eq_of_testBit_eq fun j => ?_
    rw [Nat.testBit_and]
    by_cases c : j < 32
    · have := congrArg (fun y => bt y j) z
      try dsimp only at this
      rw [b_and, b_xor, b_m1 j c, b_0, bt_of c, bt_of c] at this
      cases h1 : i.testBit j with
      | false => rfl
      | true =>
        rw [h1] at this
        cases h2 : ld.testBit j with
        | true => rfl
        | false => rw [h2] at this; cases this
    · rw [tb_big (L := 12) hi (by omega)]; rfl
  · intro z
    refine b_ext fun j c => ?_
    rw [b_and, b_xor, b_m1 j c, b_0, bt_of c, bt_of c]
    cases h1 : i.testBit j with
    | false => rfl
    | true => rw [sb_bit z h1]; rfl
/-! the reference's search -/
theorem s_172l {σ : St} {P : PS} {k wh : Int32} {n ld : Nat} {st gl : Nat → Nat} {K : Int32 → St → Prop} (hb : PB P) (hm : MPl σ P) (hP : PG P) (hq : PQd P) (hn : n ≤ 4) (e : σ 39 34 = Int32.ofNat n) (hj : JR σ P n st gl 57 58) (el : σ 46 10 = Int32.ofNat ld) (hl : ld < 4096) : ∀ (d i : Nat) (b l : Int32) (o o' : Option Value), i + d = 2 ^ P.1 1 → l.toInt ≤ 1000000 → K (if (lsF (fun i => decide (i &&& ld = i)) (fun i => mkW P n st gl (Int32.ofNat i)) (fun i => dty P k (Int32.ofNat i) (Int32.ofNat ld)) d i b l).1 < 0 then (lsF (fun i => decide (i &&& ld = i)) (fun i => mkW P n st gl (Int32.ofNat i)) (fun i => dty P k (Int32.ofNat i) (Int32.ofNat ld)) d i b l).1 else if wh = 1 then (lsF (fun i => decide (i &&& ld = i)) (fun i => mkW P n st gl (Int32.ofNat i)) (fun i => dty P k (Int32.ofNat i) (Int32.ofNat ld)) d i b l).1 else (lsF (fun i => decide (i &&& ld = i)) (fun i => mkW P n st gl (Int32.ofNat i)) (fun i => dty P k (Int32.ofNat i) (Int32.ofNat ld)) d i b l).2) σ → PI 172 34 [some (.ref 39), some (.int k), some (.int wh), some (.int b), some (.int l), some (.int (Int32.ofNat i)), o, o'] [] σ K := by
  have h12 := hb.2.1
  have p2 := p2_le h12
  have lf : (1000000 : Int32).toInt = 1000000 := rfl
  intro d
  induction d with
  | zero =>
    intro i b l o o' hi h6 hK
    refine w_172_34 ?_
    rw [hm.2.1, p2_of h12, if_pos (by rw [Int32.le_iff_toInt_le, ti_of (by omega), ti_of (by omega)]; omega)]
    have hK' : K (if b < 0 then b else if wh = 1 then b else l) σ := hK
    by_cases c1 : b < 0
    · rw [if_pos c1] at hK' ⊢; exact hK'
    · rw [if_neg c1] at hK' ⊢
      by_cases c2 : wh = 1
      · rw [if_pos c2] at hK' ⊢; exact hK'
      · rw [if_neg c2] at hK' ⊢; exact hK'
  | succ d ih =>
    intro i b l o o' hi h6 hK
    refine w_172_34 ?_
    rw [hm.2.1, p2_of h12, if_neg (by rw [Int32.le_iff_toInt_le, ti_of (by omega), ti_of (by omega)]; omega), el, of_s]
    have bd := dty_b hb hq k (Int32.ofNat i) (Int32.ofNat ld)
    by_cases c : i &&& ld = i
    · rw [if_pos ((sub_i (by omega) hl).mpr c)]
      refine s_135 hb hm hq ?_
      rw [el]
      by_cases c2 : l ≤ dty P k (Int32.ofNat i) (Int32.ofNat ld)
      · rw [if_pos c2]
        rw [lsF_n (Or.inr (Or.inl (by rw [Int32.lt_iff_toInt_lt]; rw [Int32.le_iff_toInt_le] at c2; omega)))] at hK
        exact ih (i + 1) _ _ _ _ (by omega) h6 hK
      · rw [if_neg c2]
        refine s_171 hm hP hn e hj ?_
        cases hk : mkW P n st gl (Int32.ofNat i) with
        | false =>
          rw [cond_false, if_pos rfl]
          rw [lsF_n (sub := fun i => decide (i &&& ld = i)) (mk := fun i => mkW P n st gl (Int32.ofNat i)) (D := fun i => dty P k (Int32.ofNat i) (Int32.ofNat ld)) (i := i) (Or.inr (Or.inr hk))] at hK
          exact ih (i + 1) _ _ _ _ (by omega) h6 hK
        | true =>
          rw [cond_true, if_neg (by decide)]
          rw [lsF_y (sub := fun i => decide (i &&& ld = i)) (mk := fun i => mkW P n st gl (Int32.ofNat i)) (D := fun i => dty P k (Int32.ofNat i) (Int32.ofNat ld)) (i := i) (decide_eq_true c) (by rw [Int32.lt_iff_toInt_lt]; rw [Int32.le_iff_toInt_le] at c2; omega) hk] at hK
          exact ih (i + 1) _ _ _ _ (by omega) (by omega) hK
    · rw [if_neg (fun z => c ((sub_i (by omega) hl).mp z)), if_pos (by rw [Int32.le_iff_toInt_le, lf]; exact h6)]
      rw [lsF_n (Or.inl (decide_eq_false c))] at hK
      exact ih (i + 1) _ _ _ _ (by omega) h6 hK
/-! the class's search -/
theorem s_105l {σ : St} {P : PS} {k : Int32} {g : Nat → Int32} {n ld : Nat} {st gl : Nat → Nat} {K : Int32 → St → Prop} (hx : XP σ P) (hP : PG P) (hn : n ≤ 4) (e : σ 29 0 = Int32.ofNat n) (hj : JR σ P n st gl 30 31) (hw : ∀ y, y < 64 → σ 35 y = wt6 g y ∧ σ 36 y = wt6 (fun l => g (6 + l)) y) (hl : ld < 2 ^ P.1 1) : ∀ (f s : Nat) (b l : Int32) (o : Option Value), f + rkk 12 ld s = 2 ^ ppk 12 ld → s &&& ld = s → K (lsF (fun i => decide (i &&& ld = i)) (fun i => mkW P n st gl (Int32.ofNat i)) (wtN g) (2 ^ P.1 1 - s) s b l).1 σ → PI 105 48 [some (.ref 0), some (.int k), some (.int (Int32.ofNat ld)), some (.int b), some (.int l), some (.int (Int32.ofNat (2 ^ ppk 12 ld))), some (.int (Int32.ofNat s)), some (.int (Int32.ofNat (rkk 12 ld s))), o] [] σ K := by
  have h12 := hx.1.2.1
  have p2 := p2_le h12
  have pp := (pp_of (l := ld) (by omega)).2
  have p3 := p2_le pp
  intro f
  induction f with
  | zero =>
    intro s b l o hf hs hK
    have := (sb_main 12 ld s (by omega) hs).1
    omega
  | succ f ih =>
    intro s b l o hf hs hK
    obtain ⟨m1, m2, m3⟩ := sb_main 12 ld s (by omega) hs
    have sl : s ≤ ld := by rw [← hs]; exact Nat.and_le_right
    have nxt : ∀ (b' l' : Int32) (o' : Option Value), K (lsF (fun i => decide (i &&& ld = i)) (fun i => mkW P n st gl (Int32.ofNat i)) (wtN g) (2 ^ P.1 1 - (s + 1)) (s + 1) b' l').1 σ → PI 105 48 [some (.ref 0), some (.int k), some (.int (Int32.ofNat ld)), some (.int b'), some (.int l'), some (.int (Int32.ofNat (2 ^ ppk 12 ld))), some (.int ((Int32.ofNat s - Int32.ofNat ld) &&& Int32.ofNat ld)), some (.int (Int32.ofNat (rkk 12 ld s) + 1)), o'] [] σ K := fun b' l' o' h => by
      rw [of_s, nx_N (by omega) sl]
      by_cases ce : s = ld
      · have q := m2 ce
        refine w_105_48 ?_
        rw [q, if_pos (by rw [Int32.le_iff_toInt_le]; exact Int.le_refl _)]
        rw [lsF_no _ _ (fun i h1 _ h3 => by
          have h3' := of_decide_eq_true h3
          have : i &&& ld ≤ ld := Nat.and_le_right
          omega)] at h
        exact h
      · obtain ⟨a1, a2, a3⟩ := m3 (by omega)
        rw [show (2 : Nat) ^ 12 = 4096 from rfl] at a1 a2 a3
        have nN : ((s + (4096 - ld)) &&& ld) &&& ld = (s + (4096 - ld)) &&& ld := by rw [Nat.and_assoc, Nat.and_self]
        have nl : (s + (4096 - ld)) &&& ld ≤ ld := Nat.and_le_right
        rw [← a2]
        generalize (s + (4096 - ld)) &&& ld = N at a1 a2 a3 nN nl ⊢
        refine ih N b' l' o' (by omega) nN ?_
        rw [show 2 ^ P.1 1 - (s + 1) = (N - (s + 1)) + (2 ^ P.1 1 - N) by omega, lsF_sk (N - (s + 1)) (s + 1) (fun i h1 h2 => decide_eq_false (fun z => by have := a3 i z (by omega); omega)), show s + 1 + (N - (s + 1)) = N by omega] at h
        exact h
    refine w_105_48 ?_
    rw [if_neg (by rw [Int32.le_iff_toInt_le, ti_of (by omega), ti_of (by omega)]; omega)]
    refine s_53 (g := g) (by omega) hw ?_
    have ed : 2 ^ P.1 1 - s = (2 ^ P.1 1 - (s + 1)) + 1 := by omega
    rw [ed] at hK
    by_cases c2 : l ≤ wtN g s
    · rw [if_pos c2]
      rw [lsF_n (Or.inr (Or.inl (by rw [Int32.lt_iff_toInt_lt]; rw [Int32.le_iff_toInt_le] at c2; omega)))] at hK
      exact nxt _ _ _ hK
    · rw [if_neg c2]
      refine s_4 hx hP hn e hj ?_
      cases hk : mkW P n st gl (Int32.ofNat s) with
      | false =>
        rw [cond_false, if_pos rfl]
        rw [lsF_n (sub := fun i => decide (i &&& ld = i)) (mk := fun i => mkW P n st gl (Int32.ofNat i)) (D := wtN g) (i := s) (Or.inr (Or.inr hk))] at hK
        exact nxt _ _ _ hK
      | true =>
        rw [cond_true, if_neg (by decide)]
        rw [lsF_y (sub := fun i => decide (i &&& ld = i)) (mk := fun i => mkW P n st gl (Int32.ofNat i)) (D := wtN g) (i := s) (decide_eq_true hs) (by rw [Int32.lt_iff_toInt_lt]; rw [Int32.le_iff_toInt_le] at c2; omega) hk] at hK
        exact nxt _ _ _ hK
/-! least -/
def W0 (σ : St) : Prop := σ 35 0 = 0 ∧ σ 36 0 = 0
theorem eq_least {σ : St} {a b : Int32} (hJ : J3 σ) (h0 : W0 σ) : CI 70 [.ref 0, .int a, .int b] σ (fun v1 σ1 => W0 σ1 ∧ CI 172 [.ref 39, .int a, .int b] σ1 (fun v2 _ => v2 = v1)) := by
  obtain ⟨P, x, n, hx, hm, hu, hN, hi, hs, hb, hc, hB⟩ := hJ.b
  have h12 := hx.1.2.1
  have h8 := hx.1.1
  have p2 := p2_le h12
  have hP := PG_of hJ.1.1.1 hx.1 hm
  have V := Vm1_of hN hs (fun (k j : Nat) (_ : 39 ≤ k) => (rfl : σ k j = σ k j))
  have lf : (1000000 : Int32).toInt = 1000000 := rfl
  have l0 : (0 : Int32).toInt = 0 := rfl
  -- journeys
  have q : σ 29 0 = σ 39 34 := hJ.1.1.2.2.2.2.1
  have r : 0 ≤ (σ 29 0).toInt ∧ (σ 29 0).toInt ≤ 4 := hJ.1.1.1.1 29 0
  have ep : (σ 11 0).toNatClampNeg = P.1 0 := by rw [hx.2.1, tc_of (by omega)]
  have e1 : σ 29 0 = Int32.ofNat (σ 29 0).toNatClampNeg := (of_ti r.1).symm
  have n4 : (σ 29 0).toNatClampNeg ≤ 4 := by rw [tc_ti]; omega
  have jr : JR σ P (σ 29 0).toNatClampNeg (fun j => (σ 30 j).toNatClampNeg) (fun j => (σ 31 j).toNatClampNeg) 30 31 := fun j hj => by
    obtain ⟨-, -, k3, k4⟩ := hJ.2.2.1 j hj
    rw [ep] at k3 k4
    obtain ⟨u, u1, u2, u3⟩ := inR_n k3
    obtain ⟨w, w1, w2, w3⟩ := inR_n k4
    refine ⟨?_, ?_, ?_, ?_⟩
    · show σ 30 j = Int32.ofNat (σ 30 j).toNatClampNeg
      rw [u3]; exact u2
    · show (σ 30 j).toNatClampNeg < P.1 0
      rw [u3]; exact u1
    · show σ 31 j = Int32.ofNat (σ 31 j).toNatClampNeg
      rw [w3]; exact w2
    · show (σ 31 j).toNatClampNeg < P.1 0
      rw [w3]; exact w1
  have jr2 : ∀ σ1 : St, (∀ q j, ¬ q = 35 → ¬ q = 36 → σ1 q j = σ q j) → JR σ1 P (σ 29 0).toNatClampNeg (fun j => (σ 30 j).toNatClampNeg) (fun j => (σ 31 j).toNatClampNeg) 57 58 := fun σ1 f1 j hj => by
    obtain ⟨k1, k2, -, -⟩ := hJ.2.2.1 j hj
    obtain ⟨a1, a2, a3, a4⟩ := jr j hj
    exact ⟨by rw [f1 57 j (by omega) (by omega), ← k1]; exact a1, a2, by rw [f1 58 j (by omega) (by omega), ← k2]; exact a3, a4⟩
  generalize hn' : (σ 29 0).toNatClampNeg = nj at e1 n4 jr jr2
  generalize (fun j => (σ 30 j).toNatClampNeg) = st at jr jr2
  generalize (fun j => (σ 31 j).toNatClampNeg) = gl at jr jr2
  -- the land
  have lb : ∀ i, P.1 1 ≤ i → bt (σ 19 0) i = false := fun i hi2 => hB.2.2.1.1 i hi2
  obtain ⟨ld, ld4, eld⟩ := small_n (x := σ 19 0) (fun i hi2 => lb i (by omega))
  have ldL : ld < 2 ^ P.1 1 := Nat.lt_pow_two_of_testBit ld (fun i hi2 => by
    by_cases c : i < 32
    · have := lb i hi2
      rw [eld, bt_of c] at this
      exact this
    · exact tb_big (L := 12) ld4 (by omega))
  have no : ∀ {σ1 : St}, ¬ ((0 ≤ a ∧ a ≤ 4) ∧ (0 ≤ b ∧ b ≤ 1)) → CI 172 [.ref 39, .int a, .int b] σ1 (fun v2 _ => v2 = -1000000002) := fun h => w_172 (s_109 (b := 0) (c := 4) (ite10 (fun c1 => s_109 (b := 0) (c := 1) (ite10 (fun c2 => absurd ⟨c1, c2⟩ h) (fun _ => rfl))) (fun _ => rfl)))
  refine w_70 (s_91 (ite10 (fun c1 => s_91 (ite10 (fun c2 => ?_) (fun c2 => ⟨h0, no (fun z => c2 z.2)⟩))) (fun c1 => ⟨h0, no (fun z => c1 z.1)⟩)))
  have ref : ∀ {σ1 : St} {v : Int32}, (∀ q j, ¬ q = 35 → ¬ q = 36 → σ1 q j = σ q j) → (if (lsF (fun i => decide (i &&& ld = i)) (fun i => mkW P nj st gl (Int32.ofNat i)) (fun i => dty P a (Int32.ofNat i) (Int32.ofNat ld)) (2 ^ P.1 1) 0 (-1) 1000000).1 < 0 then (lsF (fun i => decide (i &&& ld = i)) (fun i => mkW P nj st gl (Int32.ofNat i)) (fun i => dty P a (Int32.ofNat i) (Int32.ofNat ld)) (2 ^ P.1 1) 0 (-1) 1000000).1 else if b = 1 then (lsF (fun i => decide (i &&& ld = i)) (fun i => mkW P nj st gl (Int32.ofNat i)) (fun i => dty P a (Int32.ofNat i) (Int32.ofNat ld)) (2 ^ P.1 1) 0 (-1) 1000000).1 else (lsF (fun i => decide (i &&& ld = i)) (fun i => mkW P nj st gl (Int32.ofNat i)) (fun i => dty P a (Int32.ofNat i) (Int32.ofNat ld)) (2 ^ P.1 1) 0 (-1) 1000000).2) = v → CI 172 [.ref 39, .int a, .int b] σ1 (fun v2 _ => v2 = v) := fun {σ1 v} f1 hv => by
    refine w_172 (s_109 (b := 0) (c := 4) (ite10 (fun _ => s_109 (b := 0) (c := 1) (ite10 (fun _ => ?_) (fun z => absurd c2 z))) (fun z => absurd c1 z)))
    exact s_172l hx.1 (MPl_ex (fun k j hk => f1 k j (by omega) (by omega)) hm) hP hB.1 n4 (by rw [f1 39 34 (by omega) (by omega), ← q]; exact e1) (jr2 σ1 f1) (by rw [f1 46 10 (by omega) (by omega), V.c.1]; exact eld) ld4 (2 ^ P.1 1) 0 (-1) 1000000 none none (by omega) (by rw [lf]; omega) hv
  refine s_4 hx hP n4 e1 jr ?_
  have lds : ld &&& ld = ld := Nat.and_self ld
  have rsx := fun (w : Int32) (j : Nat) (hj : j < nj) => rs_ex (w := w) hx hP (jr j hj).2.1
  have mono : ∀ i, i < 2 ^ P.1 1 → i &&& ld = i → mkW P nj st gl (Int32.ofNat i) = true → mkW P nj st gl (Int32.ofNat ld) = true := fun i hi2 hsub hk => by
    unfold mkW at hk ⊢
    refine al2_mono _ _ (fun j _ hj hb2 => ?_) hk
    refine rs_mono (rsx _ j (by omega)) (rsx _ j (by omega)) (fun l hl hb3 => ?_) hb2
    rw [inB_t (by omega), bt_of (by omega)] at hb3 ⊢
    exact sb_bit hsub hb3
  rw [eld]
  cases hk : mkW P nj st gl (Int32.ofNat ld) with
  | false =>
    rw [cond_false, if_pos rfl]
    refine ⟨h0, ref (fun _ _ _ _ => rfl) ?_⟩
    rw [lsF_no _ _ (fun i _ h2 h3 => by
      cases hm2 : mkW P nj st gl (Int32.ofNat i) with
      | false => rfl
      | true => rw [mono i (by omega) (of_decide_eq_true h3) hm2] at hk; cases hk)]
    rfl
  | true =>
    rw [cond_true, if_neg (by decide)]
    have hg : ∀ l, l < P.1 1 → lnD a (σ 14 l) = lnD a (P.2.2 2 l) := fun l hl => by rw [(hx.2.2.2.2.2.1 l hl).2.2]
    obtain ⟨s, t1, t2, t3, t4⟩ := ls_B (sub := fun i => decide (i &&& ld = i) && decide (i < 2 ^ P.1 1)) (mk := fun i => mkW P nj st gl (Int32.ofNat i)) (D := fun i => dty P a (Int32.ofNat i) (Int32.ofNat ld)) (W := wtN (fun l => lnD a (σ 14 l))) (c := csN P a ld) (ld := ld) (fun i hi2 => by
      rw [Bool.and_eq_true, decide_eq_true_eq, decide_eq_true_eq] at hi2
      exact ⟨dty_w hx.1 hg hi2.2 hi2.1, wt_b hx.1 hB.1 hg hi2.2⟩) (cs_b hx.1 hB.1 ld) (fun i hi2 => by
      rw [Bool.and_eq_true, decide_eq_true_eq, decide_eq_true_eq] at hi2
      exact wt_m hx.1 hB.1 hg hi2.2 ldL hi2.1) (by rw [decide_eq_true lds, decide_eq_true ldL]; rfl) hk (2 ^ P.1 1) 0 (by omega) (by omega) (by omega)
    -- the bound in sub is no matter below 2 ^ L
    have drop : ∀ (D : Nat → Int32) (d i : Nat) (b l : Int32), i + d = 2 ^ P.1 1 → lsF (fun i => decide (i &&& ld = i) && decide (i < 2 ^ P.1 1)) (fun i => mkW P nj st gl (Int32.ofNat i)) D d i b l = lsF (fun i => decide (i &&& ld = i)) (fun i => mkW P nj st gl (Int32.ofNat i)) D d i b l := fun D d => by
      induction d with
      | zero => intro i b l _; rfl
      | succ d ih =>
        intro i b l h
        show (bif (decide (i &&& ld = i) && decide (i < 2 ^ P.1 1)) && (decide (D i < l) && mkW P nj st gl (Int32.ofNat i)) then _ else _) = (bif decide (i &&& ld = i) && (decide (D i < l) && mkW P nj st gl (Int32.ofNat i)) then _ else _)
        rw [decide_eq_true (show i < 2 ^ P.1 1 by omega), Bool.and_true, ih (i + 1) _ _ (by omega), ih (i + 1) _ _ (by omega)]
    rw [drop _ _ _ _ _ (by omega)] at t3 t4
    have done : ∀ {σ1 : St}, (∀ q j, ¬ q = 35 → ¬ q = 36 → σ1 q j = σ q j) → W0 σ1 → (if b = 0 then CI 20 [.ref 11, .int a, .int (Int32.ofNat s), .int (σ1 19 0)] σ1 (fun v5 σ5 => W0 σ5 ∧ CI 172 [.ref 39, .int a, .int b] σ5 (fun v2 _ => v2 = v5)) else (W0 σ1 ∧ CI 172 [.ref 39, .int a, .int b] σ1 (fun v2 _ => v2 = Int32.ofNat s))) := fun {σ1} f1 w1 => by
      have ns : ¬ Int32.ofNat s < 0 := by rw [Int32.lt_iff_toInt_lt, l0, ti_of (by omega)]; omega
      by_cases b0 : b = 0
      · rw [if_pos b0]
        refine s_20 (XP_ex (fun k j hk => f1 k j (by omega) (by omega)) hx) ⟨w1, ref f1 ?_⟩
        rw [t3, f1 19 0 (by omega) (by omega), eld]
        dsimp only
        rw [if_neg ns, if_neg (by rw [b0]; decide)]
      · rw [if_neg b0]
        refine ⟨w1, ref f1 ?_⟩
        rw [t3]
        dsimp only
        rw [if_neg ns]
        have b1 : b = 1 := by
          have l1 : (1 : Int32).toInt = 1 := rfl
          rw [Int32.le_iff_toInt_le, Int32.le_iff_toInt_le, l0, l1] at c2
          have : b.toInt ≠ 0 := fun z => b0 (ti_inj (z.trans l0.symm))
          exact ti_inj (by rw [l1]; omega)
        rw [if_pos b1]
    refine w_105 (s_52 h0 fun σ1 f1 w1 => ?_)
    rw [eld]
    refine s_53 (g := fun l => lnD a (σ 14 l)) ld4 w1 (s_192 ?_)
    have pp := pp_of ld4
    rw [pp.1, p2_of pp.2]
    have z1 : W0 σ1 := ⟨by rw [(w1 0 (by omega)).1, wt6_0], by rw [(w1 0 (by omega)).2, wt6_0]⟩
    have r0 := rkk_0 12 ld
    have go := s_105l (k := a) (K := fun v4 σ4 => (if b = 0 then CI 20 [.ref 11, .int a, .int v4, .int (σ4 19 0)] σ4 (fun v5 σ5 => W0 σ5 ∧ CI 172 [.ref 39, .int a, .int b] σ5 (fun v2 _ => v2 = v5)) else (W0 σ4 ∧ CI 172 [.ref 39, .int a, .int b] σ4 (fun v2 _ => v2 = v4)))) (XP_ex (fun k j hk => f1 k j (by omega) (by omega)) hx) hP n4 (by rw [f1 29 0 (by omega) (by omega)]; exact e1) (fun j hj => by rw [f1 30 j (by omega) (by omega), f1 31 j (by omega) (by omega)]; exact jr j hj) w1 ldL (2 ^ ppk 12 ld) 0 (Int32.ofNat ld) (wtN (fun l => lnD a (σ 14 l)) ld + 1) none (by rw [r0]; omega) (Nat.zero_and ld) (by rw [Nat.sub_zero, t4]; exact done f1 z1)
    rw [r0] at go
    exact go
