/-! plans: places and lines; which places are reached -/
def pX (P : PS) (l : Nat) : Nat := (P.2.2 0 l).toNatClampNeg
def pY (P : PS) (l : Nat) : Nat := (P.2.2 1 l).toNatClampNeg
def PG (P : PS) : Prop := PB P ∧ ∀ l, l < P.1 1 → pX P l < P.1 0 ∧ pY P l < P.1 0 ∧ P.2.2 0 l = Int32.ofNat (pX P l) ∧ P.2.2 1 l = Int32.ofNat (pY P l)
theorem PG_of {σ : St} {P : PS} (hI : Inv σ) (hb : PB P) (hm : MPl σ P) : PG P := by
  have h8 := hb.1
  have h12 := hb.2.1
  refine ⟨hb, fun l hl => ?_⟩
  obtain ⟨b1, b2, -⟩ := hm.2.2.2.2.1 l hl
  have e0 : (σ 39 0).toInt = (P.1 0 : Int) := by rw [hm.1, ti_of (by omega)]
  have e1 : (σ 39 1).toInt = (P.1 1 : Int) := by rw [hm.2.1, ti_of (by omega)]
  have q : (σ 40 l).toInt < (σ 39 0).toInt ∧ (σ 41 l).toInt < (σ 39 0).toInt := hI.2 l (by show (l : Int) < (σ 39 1).toInt; omega)
  have r0 : 0 ≤ (σ 40 l).toInt := (hI.1 40 l).1
  have r1 : 0 ≤ (σ 41 l).toInt := (hI.1 41 l).1
  rw [b1] at q r0
  rw [b2] at q r1
  have t0 : pX P l = (P.2.2 0 l).toInt.toNat := rfl
  have t1 : pY P l = (P.2.2 1 l).toInt.toNat := rfl
  exact ⟨by omega, by omega, (of_ti r0).symm, (of_ti r1).symm⟩
/-! counting -/
def cnt (f : Nat → Bool) : Nat → Nat
  | 0 => 0
  | n + 1 => cnt f n + (bif f n then 1 else 0)
theorem cnt_le (f : Nat → Bool) : ∀ n, cnt f n ≤ n
  | 0 => Nat.le_refl 0
  | n + 1 => by
    have := cnt_le f n
    show cnt f n + (bif f n then 1 else 0) ≤ n + 1
    cases f n
    · rw [cond_false]; omega
    · rw [cond_true]; omega
theorem cnt_mono {f g : Nat → Bool} (h : ∀ i, f i = true → g i = true) : ∀ n, cnt f n ≤ cnt g n
  | 0 => Nat.le_refl 0
  | n + 1 => by
    have := cnt_mono h n
    show cnt f n + (bif f n then 1 else 0) ≤ cnt g n + (bif g n then 1 else 0)
    cases hf : f n
    · rw [cond_false]; omega
    · rw [h n hf, cond_true]; omega
theorem cnt_lt {f g : Nat → Bool} (h : ∀ i, f i = true → g i = true) {j : Nat} (hf : f j = false) (hg : g j = true) : ∀ n, j < n → cnt f n + 1 ≤ cnt g n
  | 0, hj => absurd hj (Nat.not_lt_zero j)
  | n + 1, hj => by
    show cnt f n + (bif f n then 1 else 0) + 1 ≤ cnt g n + (bif g n then 1 else 0)
    by_cases e : j = n
    · have := cnt_mono h n
      rw [e] at hf hg
      rw [hf, hg, cond_true, cond_false]
      omega
    · have := cnt_lt h hf hg n (by omega)
      cases hn : f n
      · rw [cond_false]; omega
      · rw [h n hn, cond_true]; omega
theorem cnt_bd {f : Nat → Bool} {m : Nat} (h : ∀ i, f i = true → i < m) : ∀ n, cnt f n ≤ m
  | 0 => Nat.zero_le _
  | n + 1 => by
    show cnt f n + (bif f n then 1 else 0) ≤ m
    cases hn : f n
    · rw [cond_false]; exact cnt_bd h n
    · have := h n hn
      have := cnt_le f n
      rw [cond_true]; omega
/-! bits -/
theorem b01_1 {x : Int32} {k : Nat} : b01 x k = 1 ↔ bt x k = true := by
  unfold b01
  cases bt x k
  · exact ⟨fun z => absurd z (by decide), fun z => by cases z⟩
  · exact ⟨fun _ => rfl, fun _ => rfl⟩
theorem b01_0 {x : Int32} {k : Nat} : b01 x k = 0 ↔ bt x k = false := by
  unfold b01
  cases bt x k
  · exact ⟨fun _ => rfl, fun _ => rfl⟩
  · exact ⟨fun z => absurd z (by decide), fun z => by cases z⟩
theorem b01_e {x y : Int32} {k l : Nat} : b01 x k = b01 y l ↔ bt x k = bt y l := by
  unfold b01
  cases bt x k <;> cases bt y l <;> decide
theorem inB_t {w : Int32} {l : Nat} (hl : l < 32) : inB w l ↔ bt w l = true := (inB_b hl).trans b01_1
theorem b_one {k : Nat} (hk : k < 32) (i : Nat) : bt (1 <<< (Int32.ofNat k &&& 31)) i = decide (i = k) := by
  by_cases hi : i < 32
  · show bt (1 <<< (nI k &&& 31)) i = decide (i = k)
    rw [b_shl k hk 1 hi, b_1 (i - k) (by omega)]
    by_cases c : i = k
    · rw [decide_eq_true c, decide_eq_true (show k ≤ i by omega), decide_eq_true (show i - k = 0 by omega)]; rfl
    · rw [decide_eq_false c]
      by_cases d : k ≤ i
      · rw [decide_eq_true d, decide_eq_false (show ¬ i - k = 0 by omega)]; rfl
      · rw [decide_eq_false d]; rfl
  · rw [b_big (by omega), decide_eq_false (by omega)]
theorem or_z (x : Int32) : x ||| 0 = x := b_ext fun i _ => by rw [b_or, b_0, Bool.or_false]
/-! reach: the least closed set -/
def CLo (P : PS) (w S : Int32) (l : Nat) : Prop := ∀ l', l' < l → inB w l' → bt S (pX P l') = bt S (pY P l')
theorem CLo.succ {P : PS} {w S : Int32} {l : Nat} (h : CLo P w S l) (e : inB w l → bt S (pX P l) = bt S (pY P l)) : CLo P w S (l + 1) := fun l' hl' hb => by
  by_cases c : l' = l
  · rw [c] at hb ⊢; exact e hb
  · exact h l' (by omega) hb
def RsC (P : PS) (w : Int32) (a : Nat) (r : Int32) : Prop := bt r a = true ∧ CLo P w r (P.1 1) ∧ ∀ T, bt T a = true → CLo P w T (P.1 1) → ∀ i, bt r i = true → bt T i = true
theorem RsC_un {P : PS} {w : Int32} {a : Nat} {r s : Int32} (h : RsC P w a r) (k : RsC P w a s) : r = s := b_ext fun i _ => Bool.eq_iff_iff.mpr ⟨h.2.2 s k.1 k.2.1 i, k.2.2 r h.1 h.2.1 i⟩
noncomputable def rs (P : PS) (w : Int32) (a : Nat) : Int32 := Classical.epsilon (fun r => RsC P w a r)
theorem rs_eq {P : PS} {w : Int32} {a : Nat} {r : Int32} (h : RsC P w a r) : rs P w a = r := RsC_un (Classical.epsilon_spec (p := fun r => RsC P w a r) ⟨r, h⟩) h
def RI (P : PS) (w : Int32) (a : Nat) (S : Int32) : Prop := bt S a = true ∧ (∀ i, bt S i = true → i < P.1 0) ∧ ∀ T, bt T a = true → CLo P w T (P.1 1) → ∀ i, bt S i = true → bt T i = true
def cB (S : Int32) : Nat := cnt (bt S) 8
def addS (P : PS) (S : Int32) (l : Nat) : Int32 := S ||| ((1 <<< (Int32.ofNat (pX P l) &&& 31)) ||| (1 <<< (Int32.ofNat (pY P l) &&& 31)))
theorem b_add {P : PS} (hP : PG P) {S : Int32} {l : Nat} (hl : l < P.1 1) (i : Nat) : bt (addS P S l) i = (bt S i || (decide (i = pX P l) || decide (i = pY P l))) := by
  obtain ⟨h1, h2, -⟩ := hP.2 l hl
  have h8 := hP.1.1
  unfold addS
  rw [b_or, b_or, b_one (by omega), b_one (by omega)]
theorem RI.add {P : PS} {w S : Int32} {a l : Nat} (h : RI P w a S) (hP : PG P) (hl : l < P.1 1) (hb : inB w l) (hs : bt S (pX P l) = true ∨ bt S (pY P l) = true) : RI P w a (addS P S l) := by
  obtain ⟨p1, p2, -⟩ := hP.2 l hl
  refine ⟨by rw [b_add hP hl, h.1, Bool.true_or], fun i hi => ?_, fun T t1 t2 i hi => ?_⟩
  · rw [b_add hP hl, Bool.or_eq_true, Bool.or_eq_true, decide_eq_true_eq, decide_eq_true_eq] at hi
    rcases hi with hi | hi | hi
    · exact h.2.1 i hi
    · omega
    · omega
  · have tx : bt T (pX P l) = true ∧ bt T (pY P l) = true := by
      have e := t2 l hl hb
      rcases hs with z | z
      · have q := h.2.2 T t1 t2 _ z
        exact ⟨q, by rw [← e]; exact q⟩
      · have q := h.2.2 T t1 t2 _ z
        exact ⟨by rw [e]; exact q, q⟩
    rw [b_add hP hl, Bool.or_eq_true, Bool.or_eq_true, decide_eq_true_eq, decide_eq_true_eq] at hi
    rcases hi with hi | hi | hi
    · exact h.2.2 T t1 t2 i hi
    · rw [hi]; exact tx.1
    · rw [hi]; exact tx.2
theorem bne_or {x y : Bool} (h : ¬ x = y) : x = true ∨ y = true := by
  cases x <;> cases y
  · exact absurd rfl h
  · exact Or.inr rfl
  · exact Or.inl rfl
  · exact Or.inl rfl
theorem cB_add {P : PS} (hP : PG P) {S : Int32} {l : Nat} (hl : l < P.1 1) (ne : ¬ bt S (pX P l) = bt S (pY P l)) : cB S + 1 ≤ cB (addS P S l) := by
  obtain ⟨p1, p2, -⟩ := hP.2 l hl
  have h8 := hP.1.1
  have m : ∀ i, bt S i = true → bt (addS P S l) i = true := fun i hi => by rw [b_add hP hl, hi, Bool.true_or]
  cases hx : bt S (pX P l)
  · exact cnt_lt m hx (by rw [b_add hP hl, decide_eq_true (rfl : pX P l = pX P l), Bool.true_or, Bool.or_true]) 8 (by omega)
  · have hy : bt S (pY P l) = false := by
      cases hy : bt S (pY P l)
      · rfl
      · exact absurd (hx.trans hy.symm) ne
    exact cnt_lt m hy (by rw [b_add hP hl, decide_eq_true (rfl : pY P l = pY P l), Bool.or_true, Bool.or_true]) 8 (by omega)
theorem add_same {P : PS} (hP : PG P) {S : Int32} {l : Nat} (hl : l < P.1 1) (h1 : bt S (pX P l) = true) (h2 : bt S (pY P l) = true) : addS P S l = S := b_ext fun i _ => by
  rw [b_add hP hl]
  by_cases c : i = pX P l
  · rw [c, h1, Bool.true_or]
  · by_cases d : i = pY P l
    · rw [d, h2, Bool.true_or]
    · rw [decide_eq_false c, decide_eq_false d, Bool.or_false, Bool.or_false]
theorem RI_0 {P : PS} (hP : PG P) {w : Int32} {a : Nat} (ha : a < P.1 0) : RI P w a (1 <<< (Int32.ofNat a &&& 31)) ∧ 1 ≤ cB (1 <<< (Int32.ofNat a &&& 31)) := by
  have h8 := hP.1.1
  have e := b_one (k := a) (by omega)
  have ea : bt (1 <<< (Int32.ofNat a &&& 31)) a = true := by rw [e, decide_eq_true rfl]
  refine ⟨⟨ea, fun i hi => ?_, fun T t1 _ i hi => ?_⟩, ?_⟩
  · rw [e, decide_eq_true_eq] at hi; omega
  · rw [e, decide_eq_true_eq] at hi; rw [hi]; exact t1
  · exact cnt_lt (f := fun _ => false) (fun i hi => by cases hi) rfl ea 8 (by omega)
/-- the class -/
def RF (P : PS) (w : Int32) (S0 : Int32) (l : Nat) (S x4 : Int32) : Prop := (x4 = 0 ∧ S = S0 ∧ CLo P w S l) ∨ (x4 = 1 ∧ cB S0 + 1 ≤ cB S)
theorem RF.succ {P : PS} {w S0 S x4 : Int32} {l : Nat} (h : RF P w S0 l S x4) (e : inB w l → bt S (pX P l) = bt S (pY P l)) : RF P w S0 (l + 1) S x4 := by
  rcases h with ⟨h1, h2, h3⟩ | h
  · exact Or.inl ⟨h1, h2, h3.succ e⟩
  · exact Or.inr h
theorem RF.le {P : PS} {w S0 S x4 : Int32} {l : Nat} (h : RF P w S0 l S x4) : cB S0 ≤ cB S := by
  rcases h with ⟨-, h, -⟩ | ⟨-, h⟩
  · rw [h]; exact Nat.le_refl _
  · omega
theorem s_37l {σ : St} {P : PS} {w : Int32} {a g : Nat} {S0 : Int32} {K : Int32 → St → Prop} (hx : XP σ P) (hP : PG P) (cont : ∀ (S x4 : Int32) (o : Option Value), RI P w a S → RF P w S0 (P.1 1) S x4 → PI 37 10 [some (.ref 27), some (.int w), some (.int (Int32.ofNat a)), some (.int S), some (.int x4), some (.int (Int32.ofNat (g + 1))), o] [] σ K) : ∀ (d l : Nat) (S x4 : Int32), l + d = P.1 1 → RI P w a S → RF P w S0 l S x4 → PI 37 28 [some (.ref 27), some (.int w), some (.int (Int32.ofNat a)), some (.int S), some (.int x4), some (.int (Int32.ofNat g)), some (.int (Int32.ofNat l))] [] σ K := by
  have h12 := hP.1.2.1
  have h8 := hP.1.1
  intro d
  induction d with
  | zero =>
    intro l S x4 hl hR hF
    refine w_37_28 ?_
    have el : l = P.1 1 := by omega
    rw [hx.2.2.1, if_pos (by rw [Int32.le_iff_toInt_le, ti_of (by omega), ti_of (by omega)]; omega), of_s]
    rw [el] at hF
    exact cont S x4 _ hR hF
  | succ d ih =>
    intro l S x4 hl hR hF
    refine w_37_28 ?_
    obtain ⟨p1, p2, p3, p4⟩ := hP.2 l (by omega)
    obtain ⟨x1, x2, -⟩ := hx.2.2.2.2.2.1 l (by omega)
    rw [hx.2.2.1, if_neg (by rw [Int32.le_iff_toInt_le, ti_of (by omega), ti_of (by omega)]; omega)]
    refine s_92 (by omega) ?_
    by_cases c : b01 w l = 1
    · rw [if_pos c]
      have hbl := (inB_b (by omega)).mpr c
      refine ⟨by rw [ti_of (by omega)]; omega, ?_⟩
      rw [tc_of (by omega), x1, p3]
      refine s_92 (by omega) ?_
      rw [x2, p4]
      refine s_92 (by omega) ?_
      by_cases e : bt S (pX P l) = bt S (pY P l)
      · rw [if_pos (b01_e.mpr e), of_s]
        exact ih (l + 1) S x4 (by omega) hR (hF.succ fun _ => e)
      · rw [if_neg (fun z => e (b01_e.mp z)), of_s, x1, x2, p3, p4]
        have q := cB_add hP (by omega) e
        have := hF.le
        exact ih (l + 1) (addS P S l) 1 (by omega) (hR.add hP (by omega) hbl (bne_or e)) (Or.inr ⟨rfl, by omega⟩)
    · rw [if_neg c, of_s]
      exact ih (l + 1) S x4 (by omega) hR (hF.succ fun z => absurd ((inB_b (by omega)).mp z) c)
theorem s_37r {σ : St} {P : PS} {w : Int32} {a : Nat} {K : Int32 → St → Prop} (hx : XP σ P) (hP : PG P) (hK : ∀ r, RsC P w a r → K r σ) : ∀ (d g : Nat) (S x4 : Int32) (o : Option Value), g + d = 8 → RI P w a S → (x4 = 0 ∧ CLo P w S (P.1 1)) ∨ (x4 = 1 ∧ g + 1 ≤ cB S) → PI 37 10 [some (.ref 27), some (.int w), some (.int (Int32.ofNat a)), some (.int S), some (.int x4), some (.int (Int32.ofNat g)), o] [] σ K := by
  have l8 : (8 : Int32).toInt = 8 := rfl
  intro d
  induction d with
  | zero =>
    intro g S x4 o hg hR h
    refine w_37_10 ?_
    rcases h with ⟨rfl, h⟩ | ⟨rfl, h⟩
    · rw [if_pos rfl]; exact hK S ⟨hR.1, h, hR.2.2⟩
    · have := cnt_le (bt S) 8
      unfold cB at h
      omega
  | succ d ih =>
    intro g S x4 o hg hR h
    refine w_37_10 ?_
    rcases h with ⟨rfl, h⟩ | ⟨rfl, h⟩
    · rw [if_pos rfl]; exact hK S ⟨hR.1, h, hR.2.2⟩
    · rw [if_neg (by decide), if_neg (by rw [Int32.le_iff_toInt_le, l8, ti_of (by omega)]; omega)]
      refine s_37l hx hP (S0 := S) (fun S' x' o' hR' hF' => ih (g + 1) S' x' o' (by omega) hR' ?_) (P.1 1) 0 S 0 (by omega) hR (Or.inl ⟨rfl, rfl, fun l' hl' => absurd hl' (Nat.not_lt_zero l')⟩)
      rcases hF' with ⟨e1, e2, e3⟩ | ⟨e1, e2⟩
      · exact Or.inl ⟨e1, e3⟩
      · exact Or.inr ⟨e1, by omega⟩
theorem s_37 {σ : St} {P : PS} {w : Int32} {a : Nat} {K : Int32 → St → Prop} (hx : XP σ P) (hP : PG P) (ha : a < P.1 0) (hK : RsC P w a (rs P w a) → K (rs P w a) σ) : CI 37 [.ref 27, .int w, .int (Int32.ofNat a)] σ K := by
  obtain ⟨r0, r1⟩ := RI_0 hP (w := w) ha
  refine w_37 (s_37r hx hP (fun r hr => ?_) 8 0 _ 1 none (by omega) r0 (Or.inr ⟨rfl, by omega⟩))
  have e := rs_eq hr
  subst e
  exact hK hr
/-- the reference -/
def RqM (P : PS) (w : Int32) (S0 : Int32) (l : Nat) (S : Int32) : Prop := (S = S0 ∧ CLo P w S l) ∨ cB S0 + 1 ≤ cB S
theorem RqM.succ {P : PS} {w S0 S : Int32} {l : Nat} (h : RqM P w S0 l S) (e : inB w l → bt S (pX P l) = bt S (pY P l)) : RqM P w S0 (l + 1) S := by
  rcases h with ⟨h2, h3⟩ | h
  · exact Or.inl ⟨h2, h3.succ e⟩
  · exact Or.inr h
theorem RqM.le {P : PS} {w S0 S : Int32} {l : Nat} (h : RqM P w S0 l S) : cB S0 ≤ cB S := by
  rcases h with ⟨h, -⟩ | h
  · rw [h]; exact Nat.le_refl _
  · omega
theorem RqM.add {P : PS} (hP : PG P) {w S0 S : Int32} {a l : Nat} (hl : l < P.1 1) (hb : inB w l) (hR : RI P w a S) (h : RqM P w S0 l S) (hs : bt S (pX P l) = true ∨ bt S (pY P l) = true) : RI P w a (addS P S l) ∧ RqM P w S0 (l + 1) (addS P S l) := by
  refine ⟨hR.add hP hl hb hs, ?_⟩
  by_cases e : bt S (pX P l) = bt S (pY P l)
  · have h12 : bt S (pX P l) = true ∧ bt S (pY P l) = true := by
      rcases hs with z | z
      · exact ⟨z, e ▸ z⟩
      · exact ⟨e.trans z, z⟩
    rw [add_same hP hl h12.1 h12.2]
    exact h.succ fun _ => e
  · have q := cB_add hP hl e
    have := h.le
    exact Or.inr (by omega)
theorem s_139l {σ : St} {P : PS} {w : Int32} {a g : Nat} {S0 : Int32} {K : Int32 → St → Prop} (hm : MPl σ P) (hP : PG P) (cont : ∀ (S : Int32) (o o' : Option Value), RI P w a S → RqM P w S0 (P.1 1) S → PI 139 7 [some (.ref 39), some (.int (Int32.ofNat a)), some (.int w), some (.int S), some (.int (Int32.ofNat (g + 1))), o, o'] [] σ K) : ∀ (d l : Nat) (S : Int32) (o : Option Value), l + d = P.1 1 → RI P w a S → RqM P w S0 l S → PI 139 19 [some (.ref 39), some (.int (Int32.ofNat a)), some (.int w), some (.int S), some (.int (Int32.ofNat g)), some (.int (Int32.ofNat l)), o] [] σ K := by
  have h12 := hP.1.2.1
  have h8 := hP.1.1
  intro d
  induction d with
  | zero =>
    intro l S o hl hR hF
    refine w_139_19 ?_
    have el : l = P.1 1 := by omega
    rw [hm.2.1, if_pos (by rw [Int32.le_iff_toInt_le, ti_of (by omega), ti_of (by omega)]; omega), of_s]
    rw [el] at hF
    exact cont S _ _ hR hF
  | succ d ih =>
    intro l S o hl hR hF
    refine w_139_19 ?_
    obtain ⟨p1, p2, p3, p4⟩ := hP.2 l (by omega)
    obtain ⟨x1, x2, -⟩ := hm.2.2.2.2.1 l (by omega)
    rw [hm.2.1, if_neg (by rw [Int32.le_iff_toInt_le, ti_of (by omega), ti_of (by omega)]; omega)]
    refine s_110 (by omega) ?_
    rw [or_z]
    by_cases c : b01 w l = 0
    · rw [if_pos c, of_s]
      refine ih (l + 1) S _ (by omega) hR (hF.succ fun z => ?_)
      rw [inB_b (by omega), c] at z
      exact absurd z (by decide)
    · rw [if_neg c]
      have hbl : inB w l := (inB_t (by omega)).mpr (by
        cases hq : bt w l
        · exact absurd (b01_0.mpr hq) c
        · rfl)
      refine ⟨by rw [ti_of (by omega)]; omega, ?_⟩
      rw [tc_of (by omega), x1, p3]
      refine s_110 (by omega) ?_
      by_cases c1 : b01 S (pX P l) = 0
      · rw [if_pos c1, x2, p4]
        refine s_110 (by omega) ?_
        by_cases c2 : b01 S (pY P l) = 0
        · rw [if_pos c2, of_s]
          exact ih (l + 1) S _ (by omega) hR (hF.succ fun _ => (b01_0.mp c1).trans (b01_0.mp c2).symm)
        · rw [if_neg c2, of_s, x1, x2, p3, p4]
          obtain ⟨q1, q2⟩ := RqM.add hP (by omega) hbl hR hF (Or.inr (by
            cases hq : bt S (pY P l)
            · exact absurd (b01_0.mpr hq) c2
            · rfl))
          exact ih (l + 1) (addS P S l) _ (by omega) q1 q2
      · rw [if_neg c1, of_s, x1, x2, p3, p4]
        obtain ⟨q1, q2⟩ := RqM.add hP (by omega) hbl hR hF (Or.inl (by
          cases hq : bt S (pX P l)
          · exact absurd (b01_0.mpr hq) c1
          · rfl))
        exact ih (l + 1) (addS P S l) _ (by omega) q1 q2
theorem s_139r {σ : St} {P : PS} {w : Int32} {a : Nat} {K : Int32 → St → Prop} (hm : MPl σ P) (hP : PG P) (hK : ∀ r, RsC P w a r → K r σ) : ∀ (d g : Nat) (S : Int32) (o o' : Option Value), g + d = P.1 0 → RI P w a S → CLo P w S (P.1 1) ∨ g + 1 ≤ cB S → PI 139 7 [some (.ref 39), some (.int (Int32.ofNat a)), some (.int w), some (.int S), some (.int (Int32.ofNat g)), o, o'] [] σ K := by
  have h8 := hP.1.1
  intro d
  induction d with
  | zero =>
    intro g S o o' hg hR h
    refine w_139_7 ?_
    rw [hm.1, if_pos (by rw [Int32.le_iff_toInt_le, ti_of (by omega), ti_of (by omega)]; omega)]
    rcases h with h | h
    · exact hK S ⟨hR.1, h, hR.2.2⟩
    · have := cnt_bd hR.2.1 8
      unfold cB at h
      omega
  | succ d ih =>
    intro g S o o' hg hR h
    refine w_139_7 ?_
    rw [hm.1, if_neg (by rw [Int32.le_iff_toInt_le, ti_of (by omega), ti_of (by omega)]; omega)]
    refine s_139l hm hP (S0 := S) (fun S' o1 o2 hR' hF' => ih (g + 1) S' o1 o2 (by omega) hR' ?_) (P.1 1) 0 S _ (by omega) hR (Or.inl ⟨rfl, fun l' hl' => absurd hl' (Nat.not_lt_zero l')⟩)
    rcases hF' with ⟨e2, e3⟩ | e2
    · exact Or.inl e3
    · rcases h with h | h
      · -- a closed set doesn't grow
        refine Or.inl ?_
        have e : S' = S := by
          have i1 := hR'.2.2 S hR.1 h
          exfalso
          have : cB S' ≤ cB S := cnt_mono i1 8
          omega
        rw [e]; exact h
      · exact Or.inr (by omega)
theorem s_139 {σ : St} {P : PS} {w : Int32} {a : Nat} {K : Int32 → St → Prop} (hm : MPl σ P) (hP : PG P) (ha : a < P.1 0) (hK : RsC P w a (rs P w a) → K (rs P w a) σ) : CI 139 [.ref 39, .int (Int32.ofNat a), .int w] σ K := by
  obtain ⟨r0, r1⟩ := RI_0 hP (w := w) ha
  refine w_139 (s_139r hm hP (fun r hr => ?_) (P.1 0) 0 _ none none (by omega) r0 (Or.inr (by omega)))
  have e := rs_eq hr
  subst e
  exact hK hr
/-- cutOff -/
theorem ag_cutOff {D : Nat → Nat → Prop} (hD : HD D) {σ : St} {a : Int32} (hJ : J2 D σ) {K : Int32 → Int32 → St → Prop} (hK : ∀ v, K v v σ) : CI 74 [.ref 0, .int a] σ (fun v1 σ1 => CI 180 [.ref 39, .int a] σ1 (fun v2 σ2 => K v1 v2 σ2)) := by
  obtain ⟨P, x, n, hx, hm, hu, hN, hi, hs, hb, hc⟩ := hJ.b
  have hP := PG_of hJ.1.1 hx.1 hm
  refine w_74 (s_84 hx.2.1 hx.1.1 (ite10 (fun c => ?_) (fun c => w_180 (s_112 hm.1 hx.1.1 (ite10 (fun c' => absurd c' c) (fun _ => hK _))))))
  refine s_94 ?_
  obtain ⟨k, hk, rfl, ea⟩ := inR_n c
  refine s_37 hx hP hk (fun _ => w_180 (s_112 hm.1 hx.1.1 (ite10 (fun _ => ?_) (fun c' => absurd c c'))))
  refine s_139 hm hP hk (fun _ => ?_)
  rw [hx.2.1, hm.1, ← (show σ 19 0 = σ 46 10 from hN 0 (hD.2 _ _ (Or.inl rfl)))]
  exact hK _
