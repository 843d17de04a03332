/-! the checker is sound -/
def sg (u : Bool) (v : Int) : Int := bif u then v else -v
def LTm : List Int → List Int → Prop
  | [], _ :: _ => True
  | a :: s, b :: t => a < b ∨ (a = b ∧ LTm s t)
  | _, _ => False
def mval (vs : List Value) (σ0 σ : St) (lvc : Lv) (m : List (Pt × Bool)) : List Int := m.map fun q => sg q.2 ((pval vs σ0 σ none lvc q.1).getD 0)
def symv (ν : Nat → Int) (m : List (Nat × Bool)) : List Int := m.map fun q => sg q.2 (ν q.1)
def argL (s : ArgS) (v : Value) : Prop := match s.1 with
  | 0 => ∃ x : Int32, v = .int x ∧ s.2.1 ≤ x.toInt ∧ x.toInt ≤ s.2.2
  | 1 => ∃ x : Int64, v = .long x ∧ s.2.1 ≤ x.toInt ∧ x.toInt ≤ s.2.2
  | 2 => v = .ref s.2.1.toNat
  | _ => False
def lvS (sp : List (Option ArgS)) (lvc : Lv) : Prop := sp.length = lvc.length ∧ ∀ (i : Nat) (s : ArgS), sp[i]? = some (some s) → ∃ v, lvc[i]? = some (some v) ∧ argL s v
def cutS (vs : List Value) (σ0 : St) (c : Cut) (lvc : Lv) (σ : St) : Prop := lvS c.2.1 lvc ∧ (∀ q ∈ c.2.2.1, slS σ q) ∧ (∀ f ∈ c.2.2.2.1, fcS vs σ0 σ none lvc f) ∧ (c.2.2.2.2.1 = true → RQ σ)
def SmR (ν : Nat → Int) (n : Nat) (sm : Option (List (Nat × Bool))) (M0 : List Int) : Prop := ∀ m, sm = some m → (∀ q ∈ m, q.1 < n) ∧ M0 = symv ν m
def ScR (X : Scr) (ν : Nat → Int) (n : Nat) (scr : Option Nat) : Prop := ∀ L, scr = some L → ∃ (Ln : Nat) (xs : Nat → Int32), X = some (Ln, xs) ∧ ν L = (Ln : Int) ∧ Ln < 2 ^ 31 ∧ L < n
def EnR (X : Scr) (ν : Nat → Int) (n : Nat) (ea : List (Option Nat)) (es : Es) (sm : Option (List (Nat × Bool))) (scr : Option Nat) (vs : List Value) (σ0 : St) (M0 : List Int) : Prop := EaR ν n ea vs ∧ EsR ν n es σ0 ∧ SmR ν n sm M0 ∧ ScR X ν n scr
theorem symv_xt {ν ν' : Nat → Int} {n : Nat} {m : List (Nat × Bool)} (hx : xt ν ν' n) (h : ∀ q ∈ m, q.1 < n) : symv ν' m = symv ν m := List.map_congr_left fun q hq => by rw [hx _ (h q hq)]
theorem EnR.mono {X : Scr} {ν ν' : Nat → Int} {n n' : Nat} {ea : List (Option Nat)} {es : Es} {sm : Option (List (Nat × Bool))} {scr : Option Nat} {vs : List Value} {σ0 : St} {M0 : List Int} (h : EnR X ν n ea es sm scr vs σ0 M0) (hx : xt ν ν' n) (hn : n ≤ n') : EnR X ν' n' ea es sm scr vs σ0 M0 := by
  obtain ⟨h1, h2, h3, h4⟩ := h
  refine ⟨h1.mono hx hn, h2.mono hx hn, fun m hm => ?_, fun L hL => ?_⟩
  · obtain ⟨a, b⟩ := h3 m hm
    exact ⟨fun q hq => Nat.lt_of_lt_of_le (a q hq) hn, by rw [symv_xt hx a]; exact b⟩
  · obtain ⟨Ln, xs, a, b, c, d⟩ := h4 L hL
    exact ⟨Ln, xs, a, by rw [hx _ d]; exact b, c, by omega⟩
theorem lvOK_ix {K : Kn} : ∀ {lv : ALv} {sp : List (Option ArgS)}, lvOK K lv sp = true → lv.length = sp.length ∧ ∀ (i : Nat) (s : ArgS), sp[i]? = some (some s) → ∃ av : AV, lv[i]? = some (some av) ∧ (s.1 = av.1 ∧ ((s.1 = 2 ∧ av.2 = s.2.1.toNat) ∨ ((s.1 = 0 ∨ s.1 = 1) ∧ ∃ p, kiv K av.2 = some p ∧ s.2.1 ≤ p.1 ∧ p.2 ≤ s.2.2)))
  | [], [], _ => ⟨rfl, fun i s h => by simp at h⟩
  | a :: t, none :: u, h => by
    have h' : lvOK K t u = true := by cases a <;> exact h
    obtain ⟨h1, h2⟩ := lvOK_ix h'
    refine ⟨by simp [h1], fun i s hi => ?_⟩
    match i, hi with
    | 0, hi => simp at hi
    | i + 1, hi => simpa using h2 i s (by simpa using hi)
  | some av :: t, some s0 :: u, h => by
    unfold lvOK at h
    rw [Bool.and_eq_true] at h
    obtain ⟨h1, h2⟩ := lvOK_ix h.2
    refine ⟨by simp [h1], fun i s hi => ?_⟩
    match i, hi with
    | 0, hi =>
      have e : s0 = s := by simpa using hi
      subst e
      refine ⟨av, by simp, ?_⟩
      have h3 := h.1
      split at h3
      · rename_i e
        rw [Bool.and_eq_true] at h3
        have e1 := Nat.eq_of_beq_eq_true h3.1
        exact ⟨by rw [e, e1], Or.inl ⟨e, Nat.eq_of_beq_eq_true h3.2⟩⟩
      · rename_i e
        rw [Bool.and_eq_true] at h3
        have e1 := Nat.eq_of_beq_eq_true h3.1
        have h4 := h3.2
        split at h4
        · rename_i p hp
          have := sub_ok h4
          exact ⟨by rw [e, e1], Or.inr ⟨Or.inl e, p, hp, this.1, this.2⟩⟩
        · cases h4
      · rename_i e
        rw [Bool.and_eq_true] at h3
        have e1 := Nat.eq_of_beq_eq_true h3.1
        have h4 := h3.2
        split at h4
        · rename_i p hp
          have := sub_ok h4
          exact ⟨by rw [e, e1], Or.inr ⟨Or.inr e, p, hp, this.1, this.2⟩⟩
        · cases h4
      · cases h3
    | i + 1, hi => simpa using h2 i s (by simpa using hi)
  | none :: _, some _ :: _, h => by cases h
  | [], _ :: _, h => by unfold lvOK at h; cases h
  | _ :: _, [], h => by unfold lvOK at h; cases h
theorem lvOK_ok {X : Scr} {ν : Nat → Int} {K : Kn} {σ : St} {lv : ALv} {lvc : Lv} {sp : List (Option ArgS)} (h : lvOK K lv sp = true) (hv : vOK X ν K σ) (hl : LvR ν (kN K) lv lvc) : lvS sp lvc := by
  obtain ⟨h1, h2⟩ := lvOK_ix h
  refine ⟨by rw [← h1]; exact hl.1, fun i s hi => ?_⟩
  obtain ⟨av, e1, e2, e3⟩ := h2 i s hi
  obtain ⟨v, f1, f2⟩ := hl.2 i av e1
  refine ⟨v, f1, ?_⟩
  obtain ⟨t, u⟩ := av
  obtain ⟨t', l', h'⟩ := s
  dsimp only at e2 e3
  subst e2
  rcases e3 with ⟨e, e4⟩ | ⟨e, p, e4, e5, e6⟩
  · subst e
    subst e4
    exact f2.r
  · have h3 := kiv_ok hv e4
    rcases e with e | e
    · subst e
      obtain ⟨-, x, rfl, ex⟩ := f2.i
      exact ⟨x, rfl, by dsimp only; omega, by dsimp only; omega⟩
    · subst e
      obtain ⟨-, x, rfl, ex⟩ := f2.l
      exact ⟨x, rfl, by dsimp only; omega, by dsimp only; omega⟩
theorem mlt_ok {X : Scr} {ν : Nat → Int} {K : Kn} {σ : St} (hv : vOK X ν K σ) : ∀ {s t : List (Nat × Bool)}, mlt K s t = true → LTm (symv ν s) (symv ν t)
  | [], _ :: _, _ => trivial
  | (a, u) :: s, (b, w) :: t, h => by
    unfold mlt at h
    rw [Bool.and_eq_true, Bool.or_eq_true] at h
    obtain ⟨h0, h1⟩ := h
    have e : u = w := by simpa using h0
    subst e
    show sg u (ν a) < sg u (ν b) ∨ (sg u (ν a) = sg u (ν b) ∧ LTm (symv ν s) (symv ν t))
    rcases h1 with h1 | h1
    · left
      cases u with
      | true => have := geq_ok hv h1; simp only [sg, cond_true]; omega
      | false => have := geq_ok hv h1; simp only [sg, cond_false]; omega
    · right
      rw [Bool.and_eq_true, Bool.or_eq_true] at h1
      refine ⟨?_, mlt_ok hv h1.2⟩
      rcases h1.1 with h2 | h2
      · rw [Nat.eq_of_beq_eq_true h2]
      · rw [Bool.and_eq_true] at h2
        have g1 := geq_ok hv h2.1
        have g2 := geq_ok hv h2.2
        have : ν a = ν b := by omega
        rw [this]
  | [], [], h => by unfold mlt at h; cases h
  | _ :: _, [], h => by unfold mlt at h; cases h
theorem msym_ok {X : Scr} {σ σ0 : St} {ea : List (Option Nat)} {es : Es} {lv : ALv} {lvc : Lv} {vs : List Value} : ∀ {m : List (Pt × Bool)} {K : Kn} {ν : Nat → Int} {z : Kn × List (Nat × Bool)}, msym ea es lv K m = some z → vOK X ν K σ → IvOK σ → EaR ν (kN K) ea vs → EsR ν (kN K) es σ0 → LvR ν (kN K) lv lvc →
    ∃ ν', xt ν ν' (kN K) ∧ kN K ≤ kN z.1 ∧ vOK X ν' z.1 σ ∧ (∀ q ∈ z.2, q.1 < kN z.1) ∧ mval vs σ0 σ lvc m = symv ν' z.2 ∧ kg z.1 = kg K := by
  intro m
  induction m with
  | nil => intro K ν z h hv _ _ _ _; cases h; exact ⟨ν, xt.rf, Nat.le_refl _, hv, (fun q hq => by cases hq), rfl, rfl⟩
  | cons q t ih =>
    intro K ν z h hv hI ha he hl
    unfold msym at h
    obtain ⟨w, hw, h⟩ := Option.bind_eq_some_iff.mp h
    obtain ⟨w2, hw2, h⟩ := Option.bind_eq_some_iff.mp h
    cases h
    obtain ⟨ν1, x1, x2, x3, x4, x5, x6⟩ := psym_ok (r := none) hw hv hI ha he ReR.no hl
    obtain ⟨ν2, y1, y2, y3, y4, y5, y6⟩ := ih hw2 x3 hI (ha.mono x1 x2) (he.mono x1 x2) (hl.mono x1 x2)
    refine ⟨ν2, x1.trans y1 x2, Nat.le_trans x2 y2, y3, fun r hr => ?_, ?_, by rw [y6, x6]⟩
    · rcases List.mem_cons.mp hr with e | hr
      · rw [e]; exact Nat.lt_of_lt_of_le x4 y2
      · exact y4 r hr
    · show sg q.2 ((pval vs σ0 σ none lvc q.1).getD 0) :: mval vs σ0 σ lvc t = sg q.2 (ν2 w.2) :: symv ν2 w2.2
      rw [y5, x5, y1 _ x4]; rfl
theorem entl_ok {X : Scr} {ν : Nat → Int} {K : Kn} {σ σ0 : St} {ea : List (Option Nat)} {es : Es} {sm : Option (List (Nat × Bool))} {scr : Option Nat} {lv : ALv} {lvc : Lv} {vs : List Value} {M0 : List Int} {c : Cut} (h : entl K ea es sm lv c = true) (hv : vOK X ν K σ) (hI : IvOK σ) (he : EnR X ν (kN K) ea es sm scr vs σ0 M0) (hl : LvR ν (kN K) lv lvc) : cutS vs σ0 c lvc σ ∧ ∀ m, sm = some m → LTm M0 (mval vs σ0 σ lvc c.2.2.2.2.2) := by
  unfold entl at h
  rw [Bool.and_eq_true, Bool.and_eq_true, Bool.and_eq_true, Bool.and_eq_true] at h
  obtain ⟨⟨⟨⟨h1, h2⟩, h3⟩, h4⟩, h5⟩ := h
  refine ⟨⟨lvOK_ok h1 hv hl, fun q hq => chkSl_ok (List.all_eq_true.mp h2 q hq) hv hI, fun f hf => chkFc_ok (List.all_eq_true.mp h3 f hf) hv hI he.1 he.2.1 ReR.no hl, fun hg => ?_⟩, fun m hm => ?_⟩
  · rw [Bool.or_eq_true, Bool.not_eq_true'] at h4
    rcases h4 with h4 | h4
    · rw [hg] at h4; cases h4
    · exact hv.2.2.2.2.2 h4
  · rw [hm] at h5
    dsimp only at h5
    split at h5
    · rename_i z hz
      obtain ⟨ν1, x1, x2, x3, x4, x5, x6⟩ := msym_ok (vs := vs) (σ0 := σ0) hz hv hI he.1 he.2.1 hl
      obtain ⟨s1, s2⟩ := he.2.2.1 m hm
      rw [x5, s2, ← symv_xt x1 s1]
      exact mlt_ok x3 h5
    · cases h5
abbrev Frc : Type := Nat × Nat × Lv × List Value
def Xof (X : Scr) (t : List Frc) : Scr := match t with
  | [] => X
  | _ => none
def QF (X : Scr) (Q : Option Value → St → Prop) : List Frc → Option Value → St → Prop
  | [], r, σ => Q r σ
  | f :: t, r, σ => PW (Xof X t) f.1 f.2.1 f.2.2.1 (r.toList ++ f.2.2.2) σ (QF X Q t)
def FrR (ν : Nat → Int) (n : Nat) : List Fr → List Frc → Prop
  | [], [] => True
  | f :: t, g :: u => f.1 = g.1 ∧ f.2.1 = g.2.1 ∧ LvR ν n f.2.2.1 g.2.2.1 ∧ StR ν n f.2.2.2 g.2.2.2 ∧ FrR ν n t u
  | _, _ => False
theorem FrR.mono {ν ν' : Nat → Int} {n n' : Nat} (hx : xt ν ν' n) (hn : n ≤ n') : ∀ {fr : List Fr} {frc : List Frc}, FrR ν n fr frc → FrR ν' n' fr frc
  | [], [], _ => trivial
  | _ :: _, _ :: _, h => ⟨h.1, h.2.1, h.2.2.1.mono hx hn, h.2.2.2.1.mono hx hn, FrR.mono hx hn h.2.2.2.2⟩
def yb (y : Nat) : List Fr → Nat
  | [] => y
  | f :: t => yb f.1 t
theorem splt_ok {X : Scr} {ν : Nat → Int} {K : Kn} {σ : St} {y pc : Nat} {lv : ALv} {q : Kn × Kn} (h : splt y pc K lv = some q) (hv : vOK X ν K σ) : (vOK X ν q.1 σ ∧ kN q.1 = kN K) ∨ (vOK X ν q.2 σ ∧ kN q.2 = kN K) := by
  unfold splt at h
  cases h1 : pk spl (y * 100000 + pc) with
  | none => rw [h1] at h; cases h
  | some w =>
    rw [h1] at h
    dsimp only at h
    cases h2 : agt lv w.1 0 with
    | none => rw [h2] at h; cases h
    | some av =>
      rw [h2] at h
      dsimp only at h
      cases hp : kiv K av.2 with
      | none => rw [hp] at h; cases h
      | some p =>
        rw [hp] at h
        dsimp only at h
        obtain ⟨hc, h⟩ := if_ok h
        cases h
        have h1 := kiv_ok hv hp
        by_cases c : ν av.2 < w.2
        · exact Or.inl ⟨hv.setE h1.1 (by omega) (by omega), rfl⟩
        · exact Or.inr ⟨hv.setE h1.1 (by omega) (by omega), rfl⟩
theorem astep_isSt {md : List (Nat × Nat)} {am : List Nat} {scr : Option Nat} {oc : Nat} {i : Instr} {K : Kn} {lv : ALv} {st : List AV} {q : Ars} (h : astep md am scr oc i K lv st = some q) : isSt i = true := by
  cases i <;> first | rfl | cases h
theorem dcmp_ok {X : Scr} {ν : Nat → Int} {K : Kn} {σ : St} (hv : vOK X ν K σ) {s : Nat} {q : Nat × Nat} (h : dcmp (kD K) s = some q) : q.1 < kN K ∧ q.2 < kN K ∧ ν s = (if ν q.2 < ν q.1 then 1 else if ν q.1 = ν q.2 then 0 else -1) := by
  have : ∀ l : List (Tm × Nat), (∀ z ∈ l, z ∈ kD K) → dcmp l s = some q → q.1 < kN K ∧ q.2 < kN K ∧ ν s = (if ν q.2 < ν q.1 then 1 else if ν q.1 = ν q.2 then 0 else -1) := by
    intro l
    induction l with
    | nil => intro _ h; cases h
    | cons z t ih =>
      intro hm h
      unfold dcmp at h
      cases hb : (Nat.beq z.2 s && Nat.beq z.1.1 50) with
      | true =>
        rw [hb, cond_true] at h
        rw [Bool.and_eq_true] at hb
        have e1 := Nat.eq_of_beq_eq_true hb.1
        have e2 := Nat.eq_of_beq_eq_true hb.2
        have e3 := Option.some.inj h
        obtain ⟨d1, d2, d3⟩ := hv.2.2.1 z (hm z List.mem_cons_self)
        obtain ⟨⟨op, u, w⟩, z2⟩ := z
        dsimp only at e1 e2 e3 d1 d2 d3
        subst e2
        rw [← e3, ← e1]
        refine ⟨?_, ?_, d3⟩
        · rcases d2 with d2 | d2
          · cases d2
          · exact d2.1
        · rcases d2 with d2 | d2
          · cases d2
          · exact d2.2
      | false => rw [hb, cond_false] at h; exact ih (fun z hz => hm z (List.mem_cons_of_mem _ hz)) h
  exact this (kD K) (fun _ h => h) h
/-- a test against 0: what it says of its pair -/
theorem tst_ok {X : Scr} {ν : Nat → Int} {K : Kn} {σ : St} (hv : vOK X ν K σ) {s : Nat} (hs : s < kN K) (c : ClassFile.Cond) : ∃ ν', xt ν ν' (kN K) ∧ kN K ≤ kN (tst K s).1 ∧ vOK X ν' (tst K s).1 σ ∧ (tst K s).2.1 < kN (tst K s).1 ∧ (tst K s).2.2 < kN (tst K s).1 ∧ (relC c (ν s) 0 ↔ relC c (ν' (tst K s).2.1) (ν' (tst K s).2.2)) := by
  unfold tst
  split
  · rename_i q hq
    obtain ⟨h1, h2, h3⟩ := dcmp_ok hv hq
    refine ⟨ν, xt.rf, Nat.le_refl _, hv, h1, h2, ?_⟩
    rw [h3]
    dsimp only
    cases c <;> simp only [relC] <;> split <;> (try split) <;> omega
  · obtain ⟨ν', x1, x2, x3, x4, x5, x6⟩ := kconst_ok hv 0
    refine ⟨ν', x1, x2, x3, Nat.lt_of_lt_of_le hs x2, x4, ?_⟩
    dsimp only
    rw [x1 s hs, x5]
theorem cnd_rel {c : ClassFile.Cond} {x y : Int32} : cnd c x y = true ↔ relC c x.toInt y.toInt := by
  cases c <;> simp [cnd, relC, Int32.lt_iff_toInt_lt, Int32.le_iff_toInt_le, Int32.toInt_inj]
theorem StR.app {ν : Nat → Int} {n : Nat} : ∀ {a : List AV} {b : List Value} {c : List AV} {d : List Value}, StR ν n a b → StR ν n c d → StR ν n (a ++ c) (b ++ d)
  | [], [], _, _, _, h => h
  | _ :: _, _ :: _, _, _, h, h2 => ⟨h.1, StR.app h.2 h2⟩
theorem StR.len {ν : Nat → Int} {n : Nat} : ∀ {a : List AV} {b : List Value}, StR ν n a b → a.length = b.length
  | [], [], _ => rfl
  | _ :: _, _ :: _, h => by simp [StR.len h.2]
theorem StR.rev {ν : Nat → Int} {n : Nat} : ∀ {a : List AV} {b : List Value}, StR ν n a b → StR ν n a.reverse b.reverse
  | [], [], _ => trivial
  | _ :: _, _ :: _, h => by rw [List.reverse_cons, List.reverse_cons]; exact StR.app (StR.rev h.2) ⟨h.1, trivial⟩
theorem StR.take {ν : Nat → Int} {n : Nat} (k : Nat) : ∀ {a : List AV} {b : List Value}, StR ν n a b → StR ν n (a.take k) (b.take k) := by
  induction k with
  | zero => intro a b _; simp [StR]
  | succ k ih =>
    intro a b h
    match a, b, h with
    | [], [], _ => exact trivial
    | _ :: _, _ :: _, h => exact ⟨h.1, ih h.2⟩
theorem StR.drop {ν : Nat → Int} {n : Nat} (k : Nat) : ∀ {a : List AV} {b : List Value}, StR ν n a b → StR ν n (a.drop k) (b.drop k) := by
  induction k with
  | zero => intro a b h; exact h
  | succ k ih =>
    intro a b h
    match a, b, h with
    | [], [], _ => exact trivial
    | _ :: _, _ :: _, h => exact ih h.2
theorem alva_ok {ν : Nat → Int} {n : Nat} : ∀ {a : List AV} {b : List Value}, StR ν n a b → LvR ν n (alva a) (lva b)
  | [], [], _ => ⟨rfl, fun i av h => by simp [alva] at h⟩
  | av :: t, v :: u, h => by
    have ih := alva_ok h.2
    have hc := h.1.cat
    unfold acat at hc
    unfold alva lva
    cases hb : Nat.beq av.1 1 with
    | true =>
      rw [hb, cond_true] at hc
      rw [cond_true, if_pos hc]
      refine ⟨by simp [ih.1], fun i w hi => ?_⟩
      match i, hi with
      | 0, hi => have e : av = w := by simpa using hi
                 subst e; exact ⟨v, by simp, h.1⟩
      | 1, hi => simp at hi
      | i + 2, hi => simpa using ih.2 i w (by simpa using hi)
    | false =>
      rw [hb, cond_false] at hc
      rw [cond_false, if_neg (by omega)]
      refine ⟨by simp [ih.1], fun i w hi => ?_⟩
      match i, hi with
      | 0, hi => have e : av = w := by simpa using hi
                 subst e; exact ⟨v, by simp, h.1⟩
      | i + 1, hi => simpa using ih.2 i w (by simpa using hi)
theorem aent_ok {ν : Nat → Int} {n y : Nat} {a : List AV} {b : List Value} (h : StR ν n a b) : LvR ν n (aent y a) (ent y b) := by
  have h1 := alva_ok h
  refine ⟨by unfold aent ent; rw [List.length_append, List.length_append, List.length_replicate, List.length_replicate, h1.1], fun i av hi => ?_⟩
  unfold aent at hi
  unfold ent
  rcases Nat.lt_or_ge i (alva a).length with q | q
  · rw [List.getElem?_append_left q] at hi
    rw [List.getElem?_append_left (by rw [← h1.1]; exact q)]
    exact h1.2 i av hi
  · rw [List.getElem?_append_right q] at hi
    have := List.eq_of_mem_replicate (List.mem_of_getElem? hi)
    cases this
theorem fcon_ok {K : Kn} {args : List AV} {y : Nat} {c : Con} : ∀ {ct : List Con}, fcon K args y ct = some c → c ∈ ct ∧ cok K args y c = true
  | [], h => by cases h
  | d :: t, h => by
    unfold fcon at h
    cases hb : cok K args y d with
    | true => rw [hb, cond_true] at h; cases h; exact ⟨List.mem_cons_self, hb⟩
    | false => rw [hb, cond_false] at h; exact ⟨List.mem_cons_of_mem _ (fcon_ok h).1, (fcon_ok h).2⟩
theorem FrM.call {md : List (Nat × Nat)} {am : List Nat} {c : Con} {σ0 σ σ' : St} (h : FrM md am σ0 σ) (h2 : FrM (cMd c) (cAm c) σ σ') (h3 : (cMd c).all (fun q => inP md q.1 q.2) = true) (h4 : (cAm c).all (inN1 am) = true) : FrM md am σ0 σ' := by
  intro k j e1 e2
  rw [h2 k j, h k j e1 e2]
  · cases hb : inP (cMd c) k j with
    | false => rfl
    | true =>
      obtain ⟨z, hz, hz2⟩ := List.any_eq_true.mp hb
      rw [Bool.and_eq_true] at hz2
      have := List.all_eq_true.mp h3 z hz
      rw [Nat.eq_of_beq_eq_true hz2.1, Nat.eq_of_beq_eq_true hz2.2, e1] at this
      cases this
  · cases hb : inN1 (cAm c) k with
    | false => rfl
    | true =>
      obtain ⟨z, hz, hz2⟩ := List.any_eq_true.mp hb
      have := List.all_eq_true.mp h4 z hz
      rw [Nat.eq_of_beq_eq_true hz2, e2] at this
      cases this
