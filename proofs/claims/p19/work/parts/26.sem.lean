/-! what contracts and cuts say -/
def iOf (o : Option Value) : Option Int := match o with
  | some (.int x) => some x.toInt
  | _ => none
def lOf (lvc : Lv) (i : Nat) : Option Value := match lvc[i]? with
  | some (some v) => some v
  | _ => none
def pval (vs : List Value) (σ0 σ1 : St) (r : Option Value) (lvc : Lv) (p : Pt) : Option Int := match p.1 with
  | 0 => iOf vs[p.2.1]?
  | 1 => some (σ0 p.2.1 p.2.2).toInt
  | 2 => some (σ1 p.2.1 p.2.2).toInt
  | 3 => iOf r
  | 4 => iOf (lOf lvc p.2.1)
  | _ => some (p.2.1 : Int)
def fcS (vs : List Value) (σ0 σ1 : St) (r : Option Value) (lvc : Lv) (f : Fc) : Prop := ∀ a b : Int, pval vs σ0 σ1 r lvc f.1 = some a → pval vs σ0 σ1 r lvc f.2.1 = some b → b + f.2.2 ≤ a
def argS (s : ArgS) (v : Value) : Prop := match s.1 with
  | 0 => ∃ x : Int32, v = .int x ∧ s.2.1 ≤ x.toInt ∧ x.toInt ≤ s.2.2
  | _ => v = .ref s.2.1.toNat
def argsS : List ArgS → List Value → Prop
  | [], [] => True
  | s :: t, v :: u => argS s v ∧ argsS t u
  | _, _ => False
def slS (σ : St) (q : Nat × Nat × Int × Int) : Prop := q.2.2.1 ≤ (σ q.1 q.2.1).toInt ∧ (σ q.1 q.2.1).toInt ≤ q.2.2.2
def altS (vs : List Value) (σ0 σ1 : St) (r : Option Value) (a : Alt) : Prop :=
  (∀ x : Int32, r = some (.int x) → a.1 ≤ x.toInt ∧ x.toInt ≤ a.2.1 ∧ ∀ t, a.2.2.1 = some t → ∀ i j : Int32, vs[t.2.1]? = some (.int i) → vs[t.2.2]? = some (.int j) → x = bf 15 i j) ∧
  (∀ q ∈ a.2.2.2.2.1, slS σ1 q) ∧ (∀ f ∈ a.2.2.2.1, fcS vs σ0 σ1 r [] f) ∧ (a.2.2.2.2.2 = true → RQ σ1)
def rkS (y : Nat) (r : Option Value) : Prop := (mRK y = 0 → r = none) ∧ (mRK y ≠ 0 → ∃ x : Int32, r = some (.int x))
def Sat (c : Con) : Prop := ∀ (vs : List Value) (σ : St), Inv σ → argsS (cAr c) vs → (∀ f ∈ cPr c, fcS vs σ σ none [] f) → (cGp c = true → RQ σ) →
  PW none (cY c) 0 (ent (cY c) vs) [] σ (fun r σ' => Inv σ' ∧ FrM (cMd c) (cAm c) σ σ' ∧ rkS (cY c) r ∧ ∃ a ∈ cAl c, altS vs σ σ' r a)
def EaR (ν : Nat → Int) (n : Nat) (ea : List (Option Nat)) (vs : List Value) : Prop := ∀ i s : Nat, ea[i]? = some (some s) → s < n ∧ iOf vs[i]? = some (ν s)
def EsR (ν : Nat → Int) (n : Nat) (es : Es) (σ0 : St) : Prop := ∀ q ∈ es, q.2 < n ∧ ν q.2 = (σ0 q.1.1 q.1.2).toInt
def ReR (ν : Nat → Int) (n : Nat) (ret : Option Nat) (r : Option Value) : Prop := ∀ s, ret = some s → s < n ∧ iOf r = some (ν s)
theorem EaR.mono {ν ν' : Nat → Int} {n n' : Nat} {ea : List (Option Nat)} {vs : List Value} (h : EaR ν n ea vs) (hx : xt ν ν' n) (hn : n ≤ n') : EaR ν' n' ea vs := fun i s hi => by
  obtain ⟨a, b⟩ := h i s hi; exact ⟨by omega, by rw [hx _ a]; exact b⟩
theorem EsR.mono {ν ν' : Nat → Int} {n n' : Nat} {es : Es} {σ0 : St} (h : EsR ν n es σ0) (hx : xt ν ν' n) (hn : n ≤ n') : EsR ν' n' es σ0 := fun q hq => by
  obtain ⟨a, b⟩ := h q hq; exact ⟨by omega, by rw [hx _ a]; exact b⟩
theorem ReR.mono {ν ν' : Nat → Int} {n n' : Nat} {ret : Option Nat} {r : Option Value} (h : ReR ν n ret r) (hx : xt ν ν' n) (hn : n ≤ n') : ReR ν' n' ret r := fun s hs => by
  obtain ⟨a, b⟩ := h s hs; exact ⟨by omega, by rw [hx _ a]; exact b⟩
theorem ReR.no {ν : Nat → Int} {n : Nat} {r : Option Value} : ReR ν n none r := fun s hs => by cases hs
theorem LvR.no {ν : Nat → Int} {n : Nat} : LvR ν n [] [] := ⟨rfl, fun i av h => by simp at h⟩
section Sem
variable {X : Scr} {ν : Nat → Int} {K : Kn} {σ σ0 : St} {ea : List (Option Nat)} {es : Es} {ret : Option Nat} {r : Option Value} {lv : ALv} {lvc : Lv} {vs : List Value}
theorem psym_ok {p : Pt} {z : Kn × Nat} (h : psym K ea es ret lv p = some z) (hv : vOK X ν K σ) (hI : IvOK σ) (ha : EaR ν (kN K) ea vs) (he : EsR ν (kN K) es σ0) (hr : ReR ν (kN K) ret r) (hl : LvR ν (kN K) lv lvc) :
    ∃ ν', xt ν ν' (kN K) ∧ kN K ≤ kN z.1 ∧ vOK X ν' z.1 σ ∧ z.2 < kN z.1 ∧ pval vs σ0 σ r lvc p = some (ν' z.2) ∧ kg z.1 = kg K := by
  obtain ⟨t, k, j⟩ := p
  match t, h with
  | 0, h =>
    simp only [psym] at h
    split at h
    · rename_i s hs
      cases h
      obtain ⟨a, b⟩ := ha _ _ hs
      exact ⟨ν, xt.rf, Nat.le_refl _, hv, a, b, rfl⟩
    · cases h
  | 1, h =>
    simp only [psym] at h
    obtain ⟨s, hs, h⟩ := Option.map_eq_some_iff.mp h
    cases h
    obtain ⟨a, b⟩ := he _ (clk_mem hs)
    exact ⟨ν, xt.rf, Nat.le_refl _, hv, a, congrArg some b.symm, rfl⟩
  | 2, h =>
    cases h
    obtain ⟨ν', x1, x2, x3, x4, x5, x6⟩ := kslot_ok hv hI k j
    exact ⟨ν', x1, x2, x3, x4, congrArg some x5.symm, x6⟩
  | 3, h =>
    simp only [psym] at h
    obtain ⟨s, hs, h⟩ := Option.map_eq_some_iff.mp h
    cases h
    obtain ⟨a, b⟩ := hr _ hs
    exact ⟨ν, xt.rf, Nat.le_refl _, hv, a, b, rfl⟩
  | 4, h =>
    simp only [psym] at h
    obtain ⟨av, hs, h⟩ := Option.map_eq_some_iff.mp h
    cases h
    obtain ⟨e0, et⟩ := agt_ok hs
    obtain ⟨t, s⟩ := av
    cases et
    obtain ⟨v, e1, e2⟩ := hl.2 _ _ e0
    obtain ⟨a, x, rfl, b⟩ := e2.i
    refine ⟨ν, xt.rf, Nat.le_refl _, hv, a, ?_, rfl⟩
    show iOf (lOf lvc k) = _
    unfold lOf
    rw [e1]
    exact congrArg some b
  | t + 5, h =>
    cases h
    obtain ⟨ν', x1, x2, x3, x4, x5, x6⟩ := kconst_ok hv (k : Int)
    exact ⟨ν', x1, x2, x3, x4, congrArg some x5.symm, x6⟩
theorem chkFc_ok {f : Fc} (h : chkFc K ea es ret lv f = true) (hv : vOK X ν K σ) (hI : IvOK σ) (ha : EaR ν (kN K) ea vs) (he : EsR ν (kN K) es σ0) (hr : ReR ν (kN K) ret r) (hl : LvR ν (kN K) lv lvc) : fcS vs σ0 σ r lvc f := by
  unfold chkFc at h
  split at h
  · rename_i z hz
    obtain ⟨ν1, x1, x2, x3, x4, x5, x6⟩ := psym_ok hz hv hI ha he hr hl
    split at h
    · rename_i w hw
      obtain ⟨ν2, y1, y2, y3, y4, y5, y6⟩ := psym_ok hw x3 hI (ha.mono x1 x2) (he.mono x1 x2) (hr.mono x1 x2) (hl.mono x1 x2)
      have hg := geq_ok y3 h
      intro a b e1 e2
      rw [x5] at e1
      rw [y5] at e2
      have f1 := Option.some.inj e1
      have f2 := Option.some.inj e2
      rw [y1 _ x4, f1, f2] at hg
      exact hg
    · cases h
  · cases h
theorem asmFc_ok : ∀ {fs : List Fc} {K K' : Kn} {ν : Nat → Int}, asmFc ea es ret lv K fs = some K' → vOK X ν K σ → IvOK σ → EaR ν (kN K) ea vs → EsR ν (kN K) es σ0 → ReR ν (kN K) ret r → LvR ν (kN K) lv lvc → (∀ f ∈ fs, fcS vs σ0 σ r lvc f) →
    ∃ ν', xt ν ν' (kN K) ∧ kN K ≤ kN K' ∧ vOK X ν' K' σ ∧ kg K' = kg K := by
  intro fs
  induction fs with
  | nil => intro K K' ν h hv _ _ _ _ _ _; cases h; exact ⟨ν, xt.rf, Nat.le_refl _, hv, rfl⟩
  | cons f t ih =>
    intro K K' ν h hv hI ha he hr hl hf
    unfold asmFc at h
    split at h
    · rename_i z hz
      obtain ⟨ν1, x1, x2, x3, x4, x5, x6⟩ := psym_ok hz hv hI ha he hr hl
      split at h
      · rename_i w hw
        obtain ⟨ν2, y1, y2, y3, y4, y5, y6⟩ := psym_ok hw x3 hI (ha.mono x1 x2) (he.mono x1 x2) (hr.mono x1 x2) (hl.mono x1 x2)
        have hfc := hf f List.mem_cons_self _ _ x5 y5
        have hz2 : z.2 < kN w.1 := by omega
        obtain ⟨w1, w2, w3⟩ := addf_ok y3 hz2 y4 (c := f.2.2) (by rw [y1 _ x4]; exact hfc)
        have xx := x1.trans y1 x2
        have nn : kN K ≤ kN w.1 := Nat.le_trans x2 y2
        obtain ⟨ν3, z1, z2, z3, z4⟩ := ih h w1 hI (by rw [w2]; exact ha.mono xx nn) (by rw [w2]; exact he.mono xx nn) (by rw [w2]; exact hr.mono xx nn) (by rw [w2]; exact hl.mono xx nn) (fun g hg => hf g (List.mem_cons_of_mem _ hg))
        rw [w2] at z1 z2
        exact ⟨ν3, xx.trans z1 nn, Nat.le_trans nn z2, z3, by rw [z4, w3, y6, x6]⟩
      · cases h
    · cases h
theorem asmSl_ok : ∀ {ss : List (Nat × Nat × Int × Int)} {K K' : Kn} {ν : Nat → Int}, asmSl K ss = some K' → vOK X ν K σ → IvOK σ → (∀ q ∈ ss, slS σ q) → ∃ ν', xt ν ν' (kN K) ∧ kN K ≤ kN K' ∧ vOK X ν' K' σ ∧ kg K' = kg K := by
  intro ss
  induction ss with
  | nil => intro K K' ν h hv _ _; cases h; exact ⟨ν, xt.rf, Nat.le_refl _, hv, rfl⟩
  | cons q t ih =>
    intro K K' ν h hv hI hs
    unfold asmSl at h
    split at h
    · rename_i p hp
      obtain ⟨ν1, x1, x2, x3, x4, x5, x6⟩ := kslot_ok hv hI q.1 q.2.1
      have h1 := kiv_ok x3 hp
      have h2 := hs q List.mem_cons_self
      unfold slS at h2
      have hv2 := x3.setE (s := (kslot K q.1 q.2.1).2) (lo := max q.2.2.1 p.1) (hi := min q.2.2.2 p.2) x4 (by omega) (by omega)
      obtain ⟨ν3, z1, z2, z3, z4⟩ := ih h hv2 hI (fun g hg => hs g (List.mem_cons_of_mem _ hg))
      exact ⟨ν3, x1.trans z1 x2, Nat.le_trans x2 z2, z3, by rw [z4]; exact x6⟩
    · cases h
theorem chkSl_ok {q : Nat × Nat × Int × Int} (h : chkSl K q = true) (hv : vOK X ν K σ) (hI : IvOK σ) : slS σ q := by
  unfold chkSl at h
  split at h
  · rename_i p hp
    obtain ⟨ν1, x1, x2, x3, x4, x5, x6⟩ := kslot_ok hv hI q.1 q.2.1
    have h1 := kiv_ok x3 hp
    have h2 := sub_ok h
    unfold slS
    omega
  · cases h
theorem mkEs_ok : ∀ {l : List (Nat × Nat)} {K : Kn} {ν : Nat → Int}, vOK X ν K σ → IvOK σ → ∃ ν', xt ν ν' (kN K) ∧ kN K ≤ kN (mkEs K l).1 ∧ vOK X ν' (mkEs K l).1 σ ∧ EsR ν' (kN (mkEs K l).1) (mkEs K l).2 σ ∧ kg (mkEs K l).1 = kg K := by
  intro l
  induction l with
  | nil => intro K ν hv _; exact ⟨ν, xt.rf, Nat.le_refl _, hv, (fun q hq => by cases hq), rfl⟩
  | cons q t ih =>
    intro K ν hv hI
    obtain ⟨ν1, x1, x2, x3, x4, x5, x6⟩ := kslot_ok hv hI q.1 q.2
    obtain ⟨ν2, y1, y2, y3, y4, y5⟩ := ih x3 hI
    refine ⟨ν2, x1.trans y1 x2, Nat.le_trans x2 y2, y3, fun w hw => ?_, by rw [← x6, ← y5]; rfl⟩
    rcases List.mem_cons.mp hw with e | hw
    · rw [e]; exact ⟨Nat.lt_of_lt_of_le x4 y2, by dsimp only; rw [y1 _ x4, x5]⟩
    · exact y4 w hw
theorem argOK_ok {n : Nat} {av : AV} {s : ArgS} {v : Value} (h : argOK K av s = true) (hv : vOK X ν K σ) (hs : AVR ν n av v) : argS s v := by
  unfold argOK at h
  unfold argS
  split at h
  · rename_i e
    rw [e]
    rw [Bool.and_eq_true] at h
    have et := Nat.eq_of_beq_eq_true h.1
    obtain ⟨t, u⟩ := av
    dsimp only at et
    subst et
    obtain ⟨h1, x, rfl, ex⟩ := hs.i
    have h2 := h.2
    split at h2
    · rename_i p hp
      have h3 := kiv_ok hv hp
      have h4 := sub_ok h2
      dsimp only at h3
      exact ⟨x, rfl, by omega, by omega⟩
    · cases h2
  · rename_i e
    rw [Bool.and_eq_true, Bool.and_eq_true] at h
    have e2 := Nat.eq_of_beq_eq_true h.1.1
    have et := Nat.eq_of_beq_eq_true h.1.2
    have eu := Nat.eq_of_beq_eq_true h.2
    obtain ⟨t, u⟩ := av
    dsimp only at et eu
    subst et
    subst eu
    rw [e2]
    exact hs.r
theorem argsOK_ok {n : Nat} : ∀ {args : List AV} {ss : List ArgS} {vs : List Value}, argsOK K args ss = true → vOK X ν K σ → StR ν n args vs → argsS ss vs
  | [], [], [], _, _, _ => trivial
  | av :: t, s :: u, v :: w, h, hv, hs => by
    unfold argsOK at h
    rw [Bool.and_eq_true] at h
    exact ⟨argOK_ok h.1 hv hs.1, argsOK_ok h.2 hv hs.2⟩
theorem eaOf_ok {n : Nat} : ∀ {args : List AV} {vs : List Value}, StR ν n args vs → EaR ν n (eaOf args) vs
  | [], [], _ => fun i s h => by simp [eaOf] at h
  | av :: t, v :: w, hs => by
    intro i s h
    match i, h with
    | 0, h =>
      simp only [eaOf, List.map_cons, List.getElem?_cons_zero] at h
      cases hb : Nat.beq av.1 0 with
      | true =>
        rw [hb, cond_true] at h
        have e := Option.some.inj (Option.some.inj h)
        have et := Nat.eq_of_beq_eq_true hb
        obtain ⟨t', u⟩ := av
        dsimp only at et e
        subst et
        subst e
        obtain ⟨h1, x, rfl, ex⟩ := hs.1.i
        exact ⟨h1, by simp [iOf, ex]⟩
      | false => rw [hb, cond_false] at h; cases h
    | i + 1, h =>
      have h2 : (eaOf t)[i]? = some (some s) := by simpa [eaOf] using h
      simpa using eaOf_ok hs.2 i s h2
theorem forg_ok {c : Con} {g : Bool} {σ' : St} (hv : vOK X ν K σ) (hF : FrM (cMd c) (cAm c) σ σ') (hg : g = true → RQ σ') : vOK X ν (forg K c g) σ' := by
  obtain ⟨hE, hG, hD, hC, hA, -⟩ := hv
  refine ⟨hE, hG, hD, fun q hq => ?_, fun q hq => ?_, hg⟩
  · obtain ⟨q1, q2⟩ := List.mem_filter.mp hq
    obtain ⟨a, b⟩ := hC q q1
    rw [Bool.and_eq_true, Bool.not_eq_true', Bool.not_eq_true'] at q2
    exact ⟨a, by rw [hF _ _ q2.1 q2.2]; exact b⟩
  · obtain ⟨q1, q2⟩ := List.mem_filter.mp hq
    obtain ⟨a, b, c1, d⟩ := hA q q1
    rw [Bool.and_eq_true, Bool.not_eq_true', Bool.not_eq_true'] at q2
    refine ⟨a, b, c1, ?_⟩
    have hp : ∀ j, inP (cMd c) q.1.1 j = false := by
      intro j
      cases hb : inP (cMd c) q.1.1 j with
      | false => rfl
      | true =>
        obtain ⟨z, hz, hz2⟩ := List.any_eq_true.mp hb
        rw [Bool.and_eq_true] at hz2
        have : (cMd c).any (fun z => Nat.beq z.1 q.1.1) = true := List.any_eq_true.mpr ⟨z, hz, hz2.1⟩
        rw [this] at q2
        cases q2.2
    have e : rdX X σ' q.1.1 (ν q.1.2).toNat = rdX X σ q.1.1 (ν q.1.2).toNat := by
      unfold rdX
      split
      · split
        · rfl
        · exact hF _ _ (hp _) q2.1
      · exact hF _ _ (hp _) q2.1
    rw [e]; exact d
theorem vs_int {ea : List (Option Nat)} {n t i : Nat} (ha : EaR ν n ea vs) (h : ea[t]? = some (some i)) : ∃ x : Int32, vs[t]? = some (.int x) ∧ x.toInt = ν i ∧ i < n := by
  obtain ⟨a, b⟩ := ha _ _ h
  unfold iOf at b
  split at b
  · rename_i x hx
    exact ⟨x, hx, Option.some.inj b, a⟩
  · cases b
theorem den15 {i j : Nat} {x z : Int32} (hx : x.toInt = ν i) (hz : z.toInt = ν j) : den ν (15, (i : Int), (j : Int)) = (bf 15 x z).toInt := by
  show (bf 15 (Int32.ofInt (ν (i : Int).toNat)) (Int32.ofInt (ν (j : Int).toNat))).toInt = _
  rw [Int.toNat_natCast, Int.toNat_natCast, ← hx, ← hz, Int32.ofInt_toInt, Int32.ofInt_toInt]
theorem altK_ok {c : Con} {a : Alt} {rk : Nat} {σ' : St} {z : Kn × List AV} (h : altK K ea es c rk a = some z) (hv : vOK X ν K σ) (hI' : IvOK σ') (ha : EaR ν (kN K) ea vs) (he : EsR ν (kN K) es σ) (hF : FrM (cMd c) (cAm c) σ σ')
    (hk : (rk = 0 → r = none) ∧ (rk ≠ 0 → ∃ x : Int32, r = some (.int x))) (hs : altS vs σ σ' r a) : ∃ ν', xt ν ν' (kN K) ∧ kN K ≤ kN z.1 ∧ vOK X ν' z.1 σ' ∧ StR ν' (kN z.1) z.2 r.toList := by
  obtain ⟨s1, s2, s3, s4⟩ := hs
  have hf := forg_ok (g := a.2.2.2.2.2) hv hF s4
  unfold altK at h
  split at h
  · obtain ⟨K2, h2, h⟩ := Option.bind_eq_some_iff.mp h
    obtain ⟨K3, h3, h⟩ := Option.bind_eq_some_iff.mp h
    cases h
    have er := hk.1 rfl
    subst er
    obtain ⟨ν1, x1, x2, x3, x4⟩ := asmSl_ok h2 hf hI' s2
    obtain ⟨ν2, y1, y2, y3, y4⟩ := asmFc_ok (σ0 := σ) (vs := vs) (r := none) (lvc := []) h3 x3 hI' (ha.mono x1 x2) (he.mono x1 x2) ReR.no LvR.no s3
    exact ⟨ν2, x1.trans y1 x2, Nat.le_trans x2 y2, y3, trivial⟩
  · rename_i hne
    obtain ⟨w, h1, h⟩ := Option.bind_eq_some_iff.mp h
    obtain ⟨K2, h2, h⟩ := Option.bind_eq_some_iff.mp h
    obtain ⟨K3, h3, h⟩ := Option.bind_eq_some_iff.mp h
    cases h
    obtain ⟨x, er⟩ := hk.2 hne
    subst er
    obtain ⟨t1, t2, t3⟩ := s1 x rfl
    have hg : Grow X ν (forg K c a.2.2.2.2.2) σ' w.1 w.2 x.toInt := by
      unfold altR at h1
      split at h1
      · cases h1
        exact kfresh_ok hf t1 t2
      · rename_i t ht
        split at h1
        · rename_i i j hi hj
          obtain ⟨xi, e1, e2, e3⟩ := vs_int ha hi
          obtain ⟨xj, f1, f2, f3⟩ := vs_int ha hj
          have ex := t3 t ht xi xj e1 f1
          cases hb : Nat.beq t.1 15 with
          | true =>
            rw [hb, cond_true] at h1
            cases h1
            have hd := den15 (ν := ν) (i := i) (j := j) e2 f2
            rw [← ex] at hd
            have := kdef_ok hf (t := (15, (i : Int), (j : Int))) (lo := a.1) (hi := a.2.1) (Or.inr ⟨(show ((i : Int)).toNat < kN K by rw [Int.toNat_natCast]; exact e3), (show ((j : Int)).toNat < kN K by rw [Int.toNat_natCast]; exact f3)⟩) (by rw [hd]; exact t1) (by rw [hd]; exact t2)
            rw [hd] at this
            exact this
          | false => rw [hb, cond_false] at h1; cases h1
        · cases h1
    obtain ⟨ν0, w1, w2, w3, w4, w5, w6⟩ := hg
    obtain ⟨ν1, x1, x2, x3, x4⟩ := asmSl_ok h2 w3 hI' s2
    have xx := w1.trans x1 w2
    have nn : kN K ≤ kN K2 := Nat.le_trans w2 x2
    obtain ⟨ν2, y1, y2, y3, y4⟩ := asmFc_ok (σ0 := σ) (vs := vs) (r := some (.int x)) (lvc := []) h3 x3 hI' (ha.mono xx nn) (he.mono xx nn) (fun s hs => by cases hs; exact ⟨by omega, by rw [x1 _ w4, w5]; rfl⟩) LvR.no s3
    refine ⟨ν2, xx.trans y1 nn, Nat.le_trans nn y2, y3, ⟨⟨by dsimp only; omega, x, rfl, ?_⟩, trivial⟩⟩
    dsimp only
    rw [y1 _ (by omega), x1 _ w4, w5]
theorem altOK_ok {a : Alt} (h : altOK K ea es ret a = true) (hv : vOK X ν K σ) (hI : IvOK σ) (ha : EaR ν (kN K) ea vs) (he : EsR ν (kN K) es σ0) (hr : ReR ν (kN K) ret r) (hn : ret = none → r = none) : altS vs σ0 σ r a := by
  unfold altOK at h
  rw [Bool.and_eq_true, Bool.and_eq_true, Bool.and_eq_true] at h
  obtain ⟨⟨⟨h1, h2⟩, h3⟩, h4⟩ := h
  refine ⟨fun x hx => ?_, fun q hq => chkSl_ok (List.all_eq_true.mp h2 q hq) hv hI, fun f hf => chkFc_ok (List.all_eq_true.mp h3 f hf) hv hI ha he hr LvR.no, fun hg => ?_⟩
  · subst hx
    split at h1
    · cases hn rfl
    · rename_i s
      obtain ⟨r1, r2⟩ := hr s rfl
      have ex : x.toInt = ν s := Option.some.inj r2
      rw [Bool.and_eq_true] at h1
      obtain ⟨p1, p2⟩ := h1
      split at p1
      · rename_i p hp
        have b1 := kiv_ok hv hp
        have b2 := sub_ok p1
        refine ⟨by omega, by omega, fun t ht i j e1 e2 => ?_⟩
        rw [ht] at p2
        dsimp only at p2
        split at p2
        · rename_i i' j' hi hj
          obtain ⟨xi, f1, f2, f3⟩ := vs_int ha hi
          obtain ⟨xj, g1, g2, g3⟩ := vs_int ha hj
          rw [e1] at f1
          rw [e2] at g1
          cases f1
          cases g1
          rw [Bool.and_eq_true] at p2
          have p3 := p2.2
          split at p3
          · rename_i w hw
            have ew := Nat.eq_of_beq_eq_true p3
            obtain ⟨d1, d2, d3⟩ := hv.2.2.1 _ (dlk_mem hw)
            dsimp only at d3
            rw [den15 f2 g2, ew, ← ex] at d3
            exact Int32.toInt_inj.mp d3
          · cases p3
        · cases p2
      · cases p1
  · rw [Bool.or_eq_true, Bool.not_eq_true'] at h4
    rcases h4 with h4 | h4
    · rw [hg] at h4; cases h4
    · exact hv.2.2.2.2.2 h4
end Sem
