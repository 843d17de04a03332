/-! lost, price; map -/
theorem smm_x {f : Nat → Int32} : ∀ (d i : Nat) (x : Int32), smm f d i x = x + smm f d i 0
  | 0, _, x => (ad_z x).symm
  | d + 1, i, x => by
    show smm f d (i + 1) (x + f i) = x + smm f d (i + 1) (0 + f i)
    rw [smm_x d (i + 1) (x + f i), smm_x d (i + 1) (0 + f i), Int32.zero_add, Int32.add_assoc]
theorem smm_cg {f g : Nat → Int32} : ∀ (d i : Nat) (x : Int32), (∀ j, i ≤ j → j < i + d → f j = g j) → smm f d i x = smm g d i x
  | 0, _, _, _ => rfl
  | d + 1, i, x, h => by
    show smm f d (i + 1) (x + f i) = smm g d (i + 1) (x + g i)
    rw [h i (Nat.le_refl _) (by omega)]
    exact smm_cg d (i + 1) _ (fun j a b => h j (by omega) (by omega))
theorem smm_snoc {f : Nat → Int32} : ∀ (d i : Nat) (x : Int32), smm f (d + 1) i x = smm f d i x + f (i + d)
  | 0, i, x => rfl
  | d + 1, i, x => by
    show smm f (d + 1) (i + 1) (x + f i) = smm f d (i + 1) (x + f i) + f (i + (d + 1))
    rw [smm_snoc d (i + 1), show i + 1 + d = i + (d + 1) by omega]
theorem add4 (a b c d : Int32) : (a + b) + (c + d) = (a + c) + (b + d) := by rw [Int32.add_assoc, Int32.add_assoc, ← Int32.add_assoc b c d, Int32.add_comm b c, Int32.add_assoc c b d]
theorem smm_add {f g : Nat → Int32} : ∀ (d i : Nat), smm (fun j => f j + g j) d i 0 = smm f d i 0 + smm g d i 0
  | 0, _ => rfl
  | d + 1, i => by
    show smm (fun j => f j + g j) d (i + 1) (0 + (f i + g i)) = smm f d (i + 1) (0 + f i) + smm g d (i + 1) (0 + g i)
    rw [Int32.zero_add, Int32.zero_add, Int32.zero_add, smm_x d (i + 1) (f i + g i), smm_x d (i + 1) (f i), smm_x d (i + 1) (g i), smm_add d (i + 1)]
    exact add4 _ _ _ _
theorem smm_z {f : Nat → Int32} : ∀ (d i : Nat) (x : Int32), (∀ j, i ≤ j → j < i + d → f j = 0) → smm f d i x = x
  | 0, _, _, _ => rfl
  | d + 1, i, x, h => by
    show smm f d (i + 1) (x + f i) = x
    rw [h i (Nat.le_refl _) (by omega), ad_z]
    exact smm_z d (i + 1) x (fun j a b => h j (by omega) (by omega))
theorem smm_sh {f : Nat → Int32} {s : Nat} : ∀ (d i : Nat) (x : Int32), smm (fun k => f (s + k)) d i x = smm f d (s + i) x
  | 0, _, _ => rfl
  | d + 1, i, x => by
    show smm (fun k => f (s + k)) d (i + 1) (x + f (s + i)) = smm f d (s + i + 1) (x + f (s + i))
    rw [smm_sh d (i + 1), show s + (i + 1) = s + i + 1 by omega]
theorem smm_cat {f : Nat → Int32} : ∀ (d e i : Nat) (x : Int32), smm f (d + e) i x = smm f e (i + d) (smm f d i x)
  | 0, e, i, x => by rw [Nat.zero_add]; rfl
  | d + 1, e, i, x => by
    rw [show d + 1 + e = (d + e) + 1 by omega]
    show smm f (d + e) (i + 1) (x + f i) = smm f e (i + (d + 1)) (smm f d (i + 1) (x + f i))
    rw [smm_cat d e (i + 1), show i + 1 + d = i + (d + 1) by omega]
/-- pairs, row by row or column by column -/
theorem smm_tri {v : Nat → Nat → Int32} : ∀ n, smm (fun a => smm (fun b => v a b) (n - (a + 1)) (a + 1) 0) n 0 0 = smm (fun b => smm (fun a => v a b) b 0 0) n 0 0
  | 0 => rfl
  | n + 1 => by
    rw [smm_snoc, smm_snoc, ← smm_tri n, Nat.zero_add]
    have e0 : smm (fun b => v n b) (n + 1 - (n + 1)) (n + 1) 0 = 0 := by rw [Nat.sub_self]; rfl
    rw [e0, ad_z, ← smm_add]
    refine smm_cg n 0 0 (fun a _ ha => ?_)
    rw [show n + 1 - (a + 1) = (n - (a + 1)) + 1 by omega, smm_snoc, show a + 1 + (n - (a + 1)) = n by omega]
/-! lost -/
noncomputable def lsv (P : PS) (land sh : Int32) (a b : Nat) : Int32 := b01 (rs P land a &&& (rs P sh a ^^^ (-1))) b
theorem rs_big {P : PS} (hP : PG P) {w : Int32} {a : Nat} (ha : a < P.1 0) (h : RsC P w a (rs P w a)) (i : Nat) (hi : P.1 0 ≤ i) : bt (rs P w a) i = false := by
  have h8 := hP.1.1
  cases hb : bt (rs P w a) i with
  | false => rfl
  | true =>
    have q := h.2.2 ((1 <<< (Int32.ofNat (P.1 0) &&& 31)) - 1) (by rw [b_msk (by omega), decide_eq_true ha]) (fun l hl _ => by
      obtain ⟨p1, p2, -⟩ := hP.2 l hl
      rw [b_msk (by omega), b_msk (by omega), decide_eq_true p1, decide_eq_true p2]) i hb
    rw [b_msk (by omega), decide_eq_false (by omega)] at q
    cases q
theorem lsv_row {P : PS} (hP : PG P) {land sh : Int32} {a : Nat} (ha : a < P.1 0) (h : RsC P land a (rs P land a)) : bcF (ush (rs P land a &&& (rs P sh a ^^^ (-1))) (Int32.ofNat a + 1)) = smm (fun b => lsv P land sh a b) (P.1 0 - (a + 1)) (a + 1) 0 := by
  have h8 := hP.1.1
  have big : ∀ i, P.1 0 ≤ i → bt (rs P land a &&& (rs P sh a ^^^ (-1))) i = false := fun i hi => by rw [b_and, rs_big hP ha h i hi, Bool.false_and]
  have sh1 : ∀ i, bt (ush (rs P land a &&& (rs P sh a ^^^ (-1))) (Int32.ofNat a + 1)) i = bt (rs P land a &&& (rs P sh a ^^^ (-1))) (a + 1 + i) := fun i => by
    rw [of_s]
    exact b_ushr (a + 1) (by omega) _ i
  rw [bc_n (fun i hi => by rw [sh1]; exact big _ (by omega))]
  unfold b12
  have e : (fun k => b01 (ush (rs P land a &&& (rs P sh a ^^^ (-1))) (Int32.ofNat a + 1)) k) = fun k => lsv P land sh a (a + 1 + k) := funext fun k => by
    unfold lsv b01
    rw [sh1]
  rw [e, smm_sh (f := fun b => lsv P land sh a b) (s := a + 1) 12 0 0, Nat.add_zero]
  have d12 : (12 : Nat) = (P.1 0 - (a + 1)) + (12 - (P.1 0 - (a + 1))) := by omega
  rw [d12, smm_cat, smm_z]
  intro j h1 h2
  exact b01_0.mpr (big j (by omega))
theorem s_45l {σ : St} {P : PS} {land sh : Int32} {K : Int32 → St → Prop} (hx : XP σ P) (hP : PG P) : ∀ (d i : Nat) (x : Int32) (o : Option Value), i + d = P.1 0 → K (smm (fun a => smm (fun b => lsv P land sh a b) (P.1 0 - (a + 1)) (a + 1) 0) d i x) σ → PI 45 5 [some (.ref 27), some (.int land), some (.int sh), some (.int x), some (.int (Int32.ofNat i)), o] [] σ K := by
  have h8 := hP.1.1
  intro d
  induction d with
  | zero =>
    intro i x o hi hK
    refine w_45_5 ?_
    rw [hx.2.1, if_pos (by rw [Int32.le_iff_toInt_le, ti_of (by omega), ti_of (by omega)]; omega)]
    exact hK
  | succ d ih =>
    intro i x o hi hK
    refine w_45_5 ?_
    rw [hx.2.1, if_neg (by rw [Int32.le_iff_toInt_le, ti_of (by omega), ti_of (by omega)]; omega)]
    refine s_37 hx hP (by omega) (fun hr => s_37 hx hP (by omega) (fun _ => s_192 ?_))
    rw [lsv_row hP (by omega) hr, of_s]
    exact ih (i + 1) _ _ (by omega) hK
theorem s_147l {σ : St} {P : PS} {m : Nat} {K : Int32 → St → Prop} (hm : MPl σ P) (hP : PG P) (hm5 : m < 14) (a : Nat) (ha : a < P.1 0) : ∀ (d b : Nat) (x : Int32), b + d = P.1 0 → (∀ o, PI 147 4 [some (.ref 39), some (.int (Int32.ofNat m)), some (.int (smm (fun b => lsv P (σ 46 10) (σ 46 m) a b) d b x)), some (.int (Int32.ofNat (a + 1))), o] [] σ K) → PI 147 17 [some (.ref 39), some (.int (Int32.ofNat m)), some (.int x), some (.int (Int32.ofNat a)), some (.int (Int32.ofNat b))] [] σ K := by
  have h8 := hP.1.1
  intro d
  induction d with
  | zero =>
    intro b x hb hK
    refine w_147_17 ?_
    rw [hm.1, if_pos (by rw [Int32.le_iff_toInt_le, ti_of (by omega), ti_of (by omega)]; omega), of_s]
    exact hK _
  | succ d ih =>
    intro b x hb hK
    have hK' : ∀ o, PI 147 4 [some (.ref 39), some (.int (Int32.ofNat m)), some (.int (smm (fun b => lsv P (σ 46 10) (σ 46 m) a b) d (b + 1) (x + lsv P (σ 46 10) (σ 46 m) a b))), some (.int (Int32.ofNat (a + 1))), o] [] σ K := hK
    refine w_147_17 ?_
    rw [hm.1, if_neg (by rw [Int32.le_iff_toInt_le, ti_of (by omega), ti_of (by omega)]; omega)]
    refine s_140 hm hP ha (by omega) ?_
    rw [of_s, ad_z]
    have ev : lsv P (σ 46 10) (σ 46 m) a b = bif bt (rs P (σ 46 10) a) b then (bif bt (rs P (σ 46 m) a) b then 0 else 1) else 0 := by
      unfold lsv b01
      rw [b_and, b_xor, b_m1 b (by omega)]
      cases bt (rs P (σ 46 10) a) b <;> cases bt (rs P (σ 46 m) a) b <;> rfl
    cases h1 : bt (rs P (σ 46 10) a) b with
    | false =>
      rw [if_pos (b01_0.mpr h1)]
      rw [h1, cond_false] at ev
      rw [ev, ad_z] at hK'
      exact ih (b + 1) x (by omega) hK'
    | true =>
      rw [if_neg (by rw [b01_1.mpr h1]; decide)]
      refine ⟨by rw [ti_of (by omega)]; omega, ?_⟩
      rw [tc_of (by omega)]
      refine s_140 hm hP ha (by omega) ?_
      rw [h1, cond_true] at ev
      cases h2 : bt (rs P (σ 46 m) a) b with
      | false =>
        rw [if_pos (b01_0.mpr h2)]
        rw [h2, cond_false] at ev
        rw [ev] at hK'
        exact ih (b + 1) _ (by omega) hK'
      | true =>
        rw [if_neg (by rw [b01_1.mpr h2]; decide)]
        rw [h2, cond_true] at ev
        rw [ev, ad_z] at hK'
        exact ih (b + 1) x (by omega) hK'
theorem s_147r {σ : St} {P : PS} {m : Nat} {K : Int32 → St → Prop} (hm : MPl σ P) (hP : PG P) (hm5 : m < 14) : ∀ (d i : Nat) (x : Int32) (o : Option Value), i + d = P.1 0 → K (smm (fun a => smm (fun b => lsv P (σ 46 10) (σ 46 m) a b) (P.1 0 - (a + 1)) (a + 1) 0) d i x) σ → PI 147 4 [some (.ref 39), some (.int (Int32.ofNat m)), some (.int x), some (.int (Int32.ofNat i)), o] [] σ K := by
  have h8 := hP.1.1
  intro d
  induction d with
  | zero =>
    intro i x o hi hK
    refine w_147_4 ?_
    rw [hm.1, if_pos (by rw [Int32.le_iff_toInt_le, ti_of (by omega), ti_of (by omega)]; omega)]
    exact hK
  | succ d ih =>
    intro i x o hi hK
    have hK' : K (smm (fun a => smm (fun b => lsv P (σ 46 10) (σ 46 m) a b) (P.1 0 - (a + 1)) (a + 1) 0) d (i + 1) (x + smm (fun b => lsv P (σ 46 10) (σ 46 m) i b) (P.1 0 - (i + 1)) (i + 1) 0)) σ := hK
    refine w_147_4 ?_
    rw [hm.1, if_neg (by rw [Int32.le_iff_toInt_le, ti_of (by omega), ti_of (by omega)]; omega), of_s]
    refine s_147l hm hP hm5 i (by omega) (P.1 0 - (i + 1)) (i + 1) x (by omega) (fun o' => ?_)
    rw [smm_x]
    exact ih (i + 1) _ _ (by omega) hK'
/-! price -/
noncomputable def prv (P : PS) (w land : Int32) (a b : Nat) : Int32 := if ds P w b a = FARI then 0 else if gf land (wy P w (ds P w b) (ds P w b a).toNat a) 0 = -1 then 3 else -1
theorem s_46i {σ : St} {P : PS} {w land : Int32} {b : Nat} {K : Int32 → St → Prop} (hx : XP σ P) (hP : PG P) (hF : FP P w b (ds P w b)) (hM : MF σ P (ds P w b)) (hb : b < P.1 0) : ∀ (d i : Nat) (x : Int32), i + d = b → (∀ o, PI 46 5 [some (.ref 27), some (.int w), some (.int land), some (.int (smm (fun a => prv P w land a b) d i x)), some (.int (Int32.ofNat (b + 1))), o] [] σ K) → PI 46 27 [some (.ref 27), some (.int w), some (.int land), some (.int x), some (.int (Int32.ofNat b)), some (.int (Int32.ofNat i))] [] σ K := by
  have h8 := hP.1.1
  intro d
  induction d with
  | zero =>
    intro i x hi hK
    refine w_46_27 ?_
    rw [if_pos (by rw [Int32.le_iff_toInt_le, ti_of (by omega), ti_of (by omega)]; omega), of_s]
    exact hK _
  | succ d ih =>
    intro i x hi hK
    have hK' : ∀ o, PI 46 5 [some (.ref 27), some (.int w), some (.int land), some (.int (smm (fun a => prv P w land a b) d (i + 1) (x + prv P w land i b))), some (.int (Int32.ofNat (b + 1))), o] [] σ K := hK
    refine w_46_27 ?_
    rw [if_neg (by rw [Int32.le_iff_toInt_le, ti_of (by omega), ti_of (by omega)]; omega)]
    refine ⟨by rw [ti_of (by omega)]; omega, ?_⟩
    rw [tc_of (by omega), of_s]
    unfold prv at hK'
    by_cases far : ds P w b i = FARI
    · rw [if_pos ((MF_n hP hM (by omega)).mpr far)]
      refine ih (i + 1) x (by omega) (fun o => ?_)
      have := hK' o
      rw [if_pos far, ad_z] at this
      exact this
    · rw [if_neg (fun z => far ((MF_n hP hM (by omega)).mp z))]
      have hr := hF.1.1 i (by omega)
      have g1 := (FP_good hP hF).1 i (by omega) (by omega)
      refine s_43 hx hP hF hM (by omega) (n := (ds P w b i).toNat) (by omega) (by omega) ?_
      by_cases g : gf land (wy P w (ds P w b) (ds P w b i).toNat i) 0 = -1
      · rw [if_pos g]
        refine ih (i + 1) _ (by omega) (fun o => ?_)
        have := hK' o
        rw [if_neg far, if_pos g] at this
        exact this
      · rw [if_neg g]
        refine ih (i + 1) _ (by omega) (fun o => ?_)
        have := hK' o
        rw [if_neg far, if_neg g] at this
        exact this
theorem s_46r {τ : St} {P : PS} {w land : Int32} {K : Int32 → St → Prop} (hx : XP τ P) (hm : MPl τ P) (hP : PG P) : ∀ (d i : Nat) (x : Int32) (o : Option Value) {σ : St}, i + d = P.1 0 → Inv σ → (∀ k j, ¬ k = 28 → σ k j = τ k j) → (∀ σ', Inv σ' → (∀ k j, ¬ k = 28 → σ' k j = τ k j) → K (if 0 < smm (fun b => smm (fun a => prv P w land a b) b 0 0) d i x then smm (fun b => smm (fun a => prv P w land a b) b 0 0) d i x else 0) σ') → PI 46 5 [some (.ref 27), some (.int w), some (.int land), some (.int x), some (.int (Int32.ofNat i)), o] [] σ K := by
  have h8 := hP.1.1
  intro d
  induction d with
  | zero =>
    intro i x o σ hi hI hf hK
    refine w_46_5 ?_
    rw [(hf 11 0 (by omega)).trans hx.2.1, if_pos (by rw [Int32.le_iff_toInt_le, ti_of (by omega), ti_of (by omega)]; omega)]
    exact hK σ hI hf
  | succ d ih =>
    intro i x o σ hi hI hf hK
    refine w_46_5 ?_
    rw [(hf 11 0 (by omega)).trans hx.2.1, if_neg (by rw [Int32.le_iff_toInt_le, ti_of (by omega), ti_of (by omega)]; omega)]
    refine m_38 hI (XP_ex (fun k j hk => hf k j (by omega)) hx) (MPl_ex (fun k j hk => hf k j (by omega)) hm) (by omega) fun σ1 I1 f1 F M => ?_
    have fr : ∀ k j, ¬ k = 28 → σ1 k j = τ k j := fun k j h => (f1 k j h).trans (hf k j h)
    refine s_46i (XP_ex (fun k j hk => fr k j (by omega)) hx) hP F M (by omega) i 0 x (by omega) (fun o' => ?_)
    refine ih (i + 1) _ o' (by omega) I1 fr (fun σ' I' f' => ?_)
    rw [smm_x i 0 x]
    exact hK σ' I' f'
theorem s_148l {τ : St} {P : PS} {m : Nat} {K : Int32 → St → Prop} (hb : PB P) (hm : MPl τ P) (hP : PG P) (hm5 : m < 14) (a : Nat) (ha : a < P.1 0) : ∀ (d b : Nat) (x : Int32) (o : Option Value) {σ : St}, b + d = P.1 0 → a < b → Inv σ → (∀ k j, ¬ k = 54 → ¬ k = 55 → σ k j = τ k j) → (∀ o o' σ', Inv σ' → (∀ k j, ¬ k = 54 → ¬ k = 55 → σ' k j = τ k j) → PI 148 4 [some (.ref 39), some (.int (Int32.ofNat m)), some (.int (smm (fun b => prv P (τ 46 m) (τ 46 10) a b) d b x)), some (.int (Int32.ofNat (a + 1))), o, o'] [] σ' K) → PI 148 17 [some (.ref 39), some (.int (Int32.ofNat m)), some (.int x), some (.int (Int32.ofNat a)), some (.int (Int32.ofNat b)), o] [] σ K := by
  have h8 := hP.1.1
  have l0 : (0 : Int32).toInt = 0 := rfl
  intro d
  induction d with
  | zero =>
    intro b x o σ hbd hab hI hf hK
    refine w_148_17 ?_
    rw [(hf 39 0 (by omega) (by omega)).trans hm.1, if_pos (by rw [Int32.le_iff_toInt_le, ti_of (by omega), ti_of (by omega)]; omega), of_s]
    exact hK _ _ σ hI hf
  | succ d ih =>
    intro b x o σ hbd hab hI hf hK
    have hK' : ∀ o o' σ', Inv σ' → (∀ k j, ¬ k = 54 → ¬ k = 55 → σ' k j = τ k j) → PI 148 4 [some (.ref 39), some (.int (Int32.ofNat m)), some (.int (smm (fun b => prv P (τ 46 m) (τ 46 10) a b) d (b + 1) (x + prv P (τ 46 m) (τ 46 10) a b))), some (.int (Int32.ofNat (a + 1))), o, o'] [] σ' K := hK
    refine w_148_17 ?_
    rw [(hf 39 0 (by omega) (by omega)).trans hm.1, if_neg (by rw [Int32.le_iff_toInt_le, ti_of (by omega), ti_of (by omega)]; omega)]
    refine ⟨by rw [ti_of (by omega)]; omega, ?_⟩
    rw [tc_of (by omega), hf 46 m (by omega) (by omega), of_s]
    have m1 := MPl_ex (fun k j hk => hf k j (by omega) (by omega)) hm
    have inv : ∀ σ', (∀ k j, ¬ k = 54 → ¬ k = 55 → σ' k j = σ k j) → Inv σ' := fun σ' f => by
      refine ⟨fun k j => ?_, fun l hl => ?_⟩
      · by_cases c1 : k = 54
        · rw [c1, iv_54]; exact rng32 _
        · by_cases c2 : k = 55
          · rw [c2, iv_55]; exact rng32 _
          · rw [f k j c1 c2]; exact hI.1 k j
      · have h1 : σ' qO qL = σ qO qL := f 39 1 (by decide) (by decide)
        have h2 : σ' qO qP = σ qO qP := f 39 0 (by decide) (by decide)
        have h3 : σ' qA l = σ qA l := f 40 l (by decide) (by decide)
        have h4 : σ' qB l = σ qB l := f 41 l (by decide) (by decide)
        rw [h1] at hl
        rw [h2, h3, h4]
        exact hI.2 l hl
    refine m_142w hI hb m1 ha (by omega) (fun F far σ' f => ?_) (fun F n hn7 hd σ3 f3 h3 hl => ?_)
    · rw [if_neg (by decide), ad_z]
      refine ih (b + 1) x _ (by omega) (by omega) (inv σ' f) (fun k j h1 h2 => (f k j h1 h2).trans (hf k j h1 h2)) (fun o o' σ'' I'' f'' => ?_)
      have := hK' o o' σ'' I'' f''
      unfold prv at this
      rw [if_pos far, ad_z] at this
      exact this
    · rw [if_pos (by rw [Int32.le_iff_toInt_le, l0, ti_of (by omega)]; omega)]
      have nf : ¬ ds P (τ 46 m) b a = FARI := by unfold FARI; omega
      have en : (ds P (τ 46 m) b a).toNat = n := by omega
      refine s_143 (by omega) hl h3 ?_
      rw [(f3 46 10 (by omega) (by omega)).trans (hf 46 10 (by omega) (by omega))]
      have g := gf_c (τ 46 10) (wy P (τ 46 m) (ds P (τ 46 m) b) n a) 0 (by omega)
      have I3 := inv σ3 f3
      have fr : ∀ k j, ¬ k = 54 → ¬ k = 55 → σ3 k j = τ k j := fun k j h1 h2 => (f3 k j h1 h2).trans (hf k j h1 h2)
      by_cases q : gf (τ 46 10) (wy P (τ 46 m) (ds P (τ 46 m) b) n a) 0 = -1
      · rw [if_neg (by rw [q]; decide)]
        refine ih (b + 1) _ _ (by omega) (by omega) I3 fr (fun o o' σ'' I'' f'' => ?_)
        have := hK' o o' σ'' I'' f''
        unfold prv at this
        rw [if_neg nf, en, if_pos q] at this
        exact this
      · have g2 := g.resolve_left q
        rw [if_pos (by rw [Int32.le_iff_toInt_le, l0]; exact g2)]
        refine ih (b + 1) _ _ (by omega) (by omega) I3 fr (fun o o' σ'' I'' f'' => ?_)
        have := hK' o o' σ'' I'' f''
        unfold prv at this
        rw [if_neg nf, en, if_neg q] at this
        exact this
theorem s_148r {τ : St} {P : PS} {m : Nat} {K : Int32 → St → Prop} (hb : PB P) (hm : MPl τ P) (hP : PG P) (hm5 : m < 14) : ∀ (d i : Nat) (x : Int32) (o o' : Option Value) {σ : St}, i + d = P.1 0 → Inv σ → (∀ k j, ¬ k = 54 → ¬ k = 55 → σ k j = τ k j) → (∀ σ', K (if 0 < smm (fun a => smm (fun b => prv P (τ 46 m) (τ 46 10) a b) (P.1 0 - (a + 1)) (a + 1) 0) d i x then smm (fun a => smm (fun b => prv P (τ 46 m) (τ 46 10) a b) (P.1 0 - (a + 1)) (a + 1) 0) d i x else 0) σ') → PI 148 4 [some (.ref 39), some (.int (Int32.ofNat m)), some (.int x), some (.int (Int32.ofNat i)), o, o'] [] σ K := by
  have h8 := hP.1.1
  intro d
  induction d with
  | zero =>
    intro i x o o' σ hi hI hf hK
    refine w_148_4 ?_
    rw [(hf 39 0 (by omega) (by omega)).trans hm.1, if_pos (by rw [Int32.le_iff_toInt_le, ti_of (by omega), ti_of (by omega)]; omega)]
    have := hK σ
    by_cases c : x ≤ 0
    · rw [if_pos c]
      rw [if_neg (by show ¬ 0 < x; rw [Int32.lt_iff_toInt_lt]; rw [Int32.le_iff_toInt_le] at c; omega)] at this
      exact this
    · rw [if_neg c]
      rw [if_pos (by show 0 < x; rw [Int32.lt_iff_toInt_lt]; rw [Int32.le_iff_toInt_le] at c; omega)] at this
      exact this
  | succ d ih =>
    intro i x o o' σ hi hI hf hK
    refine w_148_4 ?_
    rw [(hf 39 0 (by omega) (by omega)).trans hm.1, if_neg (by rw [Int32.le_iff_toInt_le, ti_of (by omega), ti_of (by omega)]; omega), of_s]
    refine s_148l hb hm hP hm5 i (by omega) (P.1 0 - (i + 1)) (i + 1) x o' (by omega) (by omega) hI hf (fun o1 o2 σ' I' f' => ?_)
    rw [smm_x]
    exact ih (i + 1) _ o1 o2 (by omega) I' f' hK
/-- map -/
theorem eq_map {σ : St} {a b : Int32} (hJ : J3 σ) : CI 59 [.ref 0, .int a, .int b] σ (fun v1 σ1 => CI 152 [.ref 39, .int a, .int b] σ1 (fun v2 _ => v2 = v1)) := by
  obtain ⟨P, x, n, hx, hm, hu, hN, hi, hs, hb, hc, hB⟩ := hJ.b
  have h5 := hb.1
  have h8 := hx.1.1
  have hP := PG_of hJ.1.1.1 hx.1 hm
  have V := Vm1_of hN hs (fun (k j : Nat) (_ : 39 ≤ k) => (rfl : σ k j = σ k j))
  have l5 : (5 : Int32).toInt = 5 := rfl
  refine w_59 (s_86 hx.2.2.2.1 h5 (ite10 (fun c => ?_) (fun c => w_152 (s_115 hm.2.2.1 h5 (ite10 (fun c' => absurd c' c) (fun _ => rfl))))))
  obtain ⟨k, hk, rfl, ek⟩ := inR_n c
  have bd5 : 0 ≤ (Int32.ofNat k).toInt ∧ (Int32.ofNat k).toInt < 5 := by rw [ti_of (by omega)]; omega
  have bd14 : 0 ≤ (Int32.ofNat k).toInt ∧ (Int32.ofNat k).toInt < 14 := by rw [ti_of (by omega)]; omega
  have e5 : (5 + Int32.ofNat k).toInt = 5 + (k : Int) := by rw [ti_add (by rw [ti_of (by omega), l5]; omega) (by rw [ti_of (by omega), l5]; omega), ti_of (by omega), l5]
  have c5 : (5 + Int32.ofNat k).toNatClampNeg = 5 + k := by rw [tc_ti, e5]; omega
  have es : σ 46 k = σ 20 k := (V.s h5 hk).trans (cls5 (by omega))
  have el : σ 46 10 = σ 19 0 := V.c.1
  rw [ek]
  by_cases b0 : b = 0
  · rw [if_pos b0]
    refine ⟨bd5, w_152 (s_115 hm.2.2.1 h5 (ite10 (fun _ => ?_) (fun z => absurd c z)))⟩
    rw [if_pos b0, ek]
    exact ⟨bd5, (hm.2.2.2.2.2.1 k hk).trans (hx.2.2.2.2.2.2.1 k hk).symm⟩
  rw [if_neg b0]
  by_cases b1 : b = 1
  · rw [if_pos b1]
    refine ⟨bd5, w_152 (s_115 hm.2.2.1 h5 (ite10 (fun _ => ?_) (fun z => absurd c z)))⟩
    rw [if_neg b0, if_pos b1, ek]
    exact ⟨bd14, es⟩
  rw [if_neg b1]
  by_cases b2 : b = 2
  · rw [if_pos b2]
    refine s_95 hx hk (w_152 (s_115 hm.2.2.1 h5 (ite10 (fun _ => ?_) (fun z => absurd c z))))
    rw [if_neg b0, if_neg b1, if_pos b2]
    refine s_136 hx.1 hm hB.1 hk ?_
    rw [es, el]
  rw [if_neg b2]
  by_cases b3 : b = 3
  · rw [if_pos b3]
    refine ⟨bd5, w_152 (s_115 hm.2.2.1 h5 (ite10 (fun _ => ?_) (fun z => absurd c z)))⟩
    rw [if_neg b0, if_neg b1, if_neg b2, if_pos b3, c5]
    exact ⟨by rw [e5]; omega, (V.o h5 hk).trans cls10⟩
  rw [if_neg b3]
  by_cases b4 : b = 4
  · rw [if_pos b4]
    refine s_96 hx hk (w_152 (s_115 hm.2.2.1 h5 (ite10 (fun _ => ?_) (fun z => absurd c z))))
    rw [if_neg b0, if_neg b1, if_neg b2, if_neg b3, if_pos b4]
    refine s_137 hx.1 hm hk ?_
    rw [es, el]
  rw [if_neg b4]
  by_cases b5 : b = 5
  · rw [if_pos b5]
    refine ⟨bd5, w_45 (s_45l hx hP (P.1 0) 0 0 none (by omega) (w_152 (s_115 hm.2.2.1 h5 (ite10 (fun _ => ?_) (fun z => absurd c z)))))⟩
    rw [if_neg b0, if_neg b1, if_neg b2, if_neg b3, if_neg b4, if_pos b5]
    refine w_147 (s_147r hm hP (by omega) (P.1 0) 0 0 none (by omega) ?_)
    rw [es, el]
  rw [if_neg b5]
  by_cases b6 : b = 6
  · rw [if_pos b6]
    refine ⟨bd5, ?_⟩
    have st : ∀ σ', Inv σ' → (∀ k j, ¬ k = 28 → σ' k j = σ k j) → CI 152 [.ref 39, .int (Int32.ofNat k), .int b] σ' (fun v2 _ => v2 = (if 0 < smm (fun b => smm (fun a => prv P (σ 20 k) (σ 19 0) a b) b 0 0) (P.1 0) 0 0 then smm (fun b => smm (fun a => prv P (σ 20 k) (σ 19 0) a b) b 0 0) (P.1 0) 0 0 else 0)) := fun σ' I' f' => by
      have m1 := MPl_ex (fun k j hk => f' k j (by omega)) hm
      refine w_152 (s_115 m1.2.2.1 h5 (ite10 (fun _ => ?_) (fun z => absurd c z)))
      rw [if_neg b0, if_neg b1, if_neg b2, if_neg b3, if_neg b4, if_neg b5, if_pos b6]
      refine w_148 (s_148r (τ := σ') hx.1 m1 hP (by omega) (P.1 0) 0 0 none none (by omega) I' (fun _ _ _ _ => rfl) (fun σ'' => ?_))
      rw [smm_tri, f' 46 k (by omega), f' 46 10 (by omega), es, el]
    have one : P.1 0 = 0 ∨ 1 ≤ P.1 0 := by omega
    rcases one with p0 | p1
    · refine w_46 (w_46_5 ?_)
      rw [hx.2.1, if_pos (by rw [p0]; decide)]
      have := st σ hJ.1.1.1 (fun _ _ _ => rfl)
      rw [p0] at this
      exact this
    · refine w_46 (s_46r (τ := σ) hx hm hP (P.1 0 - 1) 1 0 none (by omega) hJ.1.1.1 (fun _ _ _ => rfl) (fun σ' I' f' => ?_))
      have e : smm (fun b => smm (fun a => prv P (σ 20 k) (σ 19 0) a b) b 0 0) (P.1 0) 0 0 = smm (fun b => smm (fun a => prv P (σ 20 k) (σ 19 0) a b) b 0 0) (P.1 0 - 1) 1 0 := by
        obtain ⟨q, hq⟩ : ∃ q, P.1 0 = q + 1 := ⟨P.1 0 - 1, by omega⟩
        rw [hq]
        show smm (fun b => smm (fun a => prv P (σ 20 k) (σ 19 0) a b) b 0 0) q (0 + 1) (0 + 0) = _
        rfl
      rw [← e]
      exact st σ' I' f'
  rw [if_neg b6]
  refine w_152 (s_115 hm.2.2.1 h5 (ite10 (fun _ => ?_) (fun z => absurd c z)))
  rw [if_neg b0, if_neg b1, if_neg b2, if_neg b3, if_neg b4, if_neg b5, if_neg b6]
