/-- what a step of the checker gives -/
def SO (X Xc : Scr) (oc : Nat) (i : Instr) (pc : Nat) (ν : Nat → Int) (n : Nat) (lvc : Lv) (stc : List Value) (σ : St) (md : List (Nat × Nat)) (am : List Nat) (σ0 : St) (q : Ars) : Prop :=
  ∃ (ν' : Nat → Int) (lvc' : Lv) (stc' : List Value) (σ' : St), stp Xc oc i pc lvc stc σ = some (pc + ilen i, lvc', stc', σ') ∧ xt ν ν' n ∧ n ≤ kN q.1 ∧ vOK X ν' q.1 σ' ∧ LvR ν' (kN q.1) q.2.1 lvc' ∧ StR ν' (kN q.1) q.2.2 stc' ∧ Inv σ' ∧ FrM md am σ0 σ'
section AStep
variable {X Xc : Scr} {oc pc : Nat} {i : Instr} {ν : Nat → Int} {K : Kn} {lv : ALv} {st : List AV} {lvc : Lv} {stc : List Value} {σ σ0 : St} {md : List (Nat × Nat)} {am : List Nat}
theorem so_push {K' : Kn} {s t : Nat} {r : List AV} {rc : List Value} {w : Value} {u : Int} (hv : vOK X ν K σ) (hl : LvR ν (kN K) lv lvc) (hr : StR ν (kN K) r rc) (hI : Inv σ) (hF : FrM md am σ0 σ) (hg : Grow X ν K σ K' s u)
    (hs : stp Xc oc i pc lvc stc σ = some (pc + ilen i, lvc, w :: rc, σ)) (hw : ∀ (ν' : Nat → Int) (n : Nat), s < n → ν' s = u → AVR ν' n (t, s) w) : SO X Xc oc i pc ν (kN K) lvc stc σ md am σ0 (K', lv, (t, s) :: r) := by
  obtain ⟨ν', x1, x2, x3, x4, x5, x6⟩ := hg
  exact ⟨ν', lvc, w :: rc, σ, hs, x1, x2, x3, hl.mono x1 x2, ⟨hw ν' _ x4 x5, hr.mono x1 x2⟩, hI, hF⟩
theorem so_same {lv' : ALv} {lvc' : Lv} {r : List AV} {rc : List Value} (hv : vOK X ν K σ) (hl : LvR ν (kN K) lv' lvc') (hr : StR ν (kN K) r rc) (hI : Inv σ) (hF : FrM md am σ0 σ)
    (hs : stp Xc oc i pc lvc stc σ = some (pc + ilen i, lvc', rc, σ)) : SO X Xc oc i pc ν (kN K) lvc stc σ md am σ0 (K, lv', r) :=
  ⟨ν, lvc', rc, σ, hs, xt.rf, Nat.le_refl _, hv, hl, hr, hI, hF⟩
theorem so_abin {op : Nat} {q : Ars} (ho : op ≠ 0 ∧ op ≠ 50) (h : abin K lv st op = some q) (hv : vOK X ν K σ) (hl : LvR ν (kN K) lv lvc) (hr : StR ν (kN K) st stc) (hI : Inv σ) (hF : FrM md am σ0 σ)
    (hs : ∀ x y rc, stc = .int y :: .int x :: rc → stp Xc oc i pc lvc stc σ = some (pc + ilen i, lvc, .int (bf op x y) :: rc, σ)) : SO X Xc oc i pc ν (kN K) lvc stc σ md am σ0 q := by
  obtain ⟨b, r1, rfl, g1⟩ := a1_ok h
  obtain ⟨a, r, rfl, g2⟩ := a1_ok g1
  obtain ⟨z, hz, g2⟩ := Option.bind_eq_some_iff.mp g2
  cases g2
  obtain ⟨v1, u1, rfl, hv1, hr1⟩ := hr.cons
  obtain ⟨v2, u2, rfl, hv2, hr2⟩ := hr1.cons
  obtain ⟨hb, y, rfl, ey⟩ := hv1.i
  obtain ⟨ha, x, rfl, ex⟩ := hv2.i
  exact so_push hv hl hr2 hI hF (kbin_ok hv ho ex ey hz) (hs x y u2 rfl) (fun ν' n h1 h2 => ⟨h1, bf op x y, rfl, h2.symm⟩)
theorem so_alng {op : Nat} {q : Ars} (ho : lop op = true) (h : alng K lv st op = some q) (hv : vOK X ν K σ) (hl : LvR ν (kN K) lv lvc) (hr : StR ν (kN K) st stc) (hI : Inv σ) (hF : FrM md am σ0 σ)
    (hs : ∀ x y rc, stc = .long y :: .long x :: rc → stp Xc oc i pc lvc stc σ = some (pc + ilen i, lvc, .long (lf op x y) :: rc, σ)) : SO X Xc oc i pc ν (kN K) lvc stc σ md am σ0 q := by
  obtain ⟨b, r1, rfl, g3⟩ := a1_ok h
  obtain ⟨a, r, rfl, g4⟩ := a1_ok g3
  obtain ⟨v1, u1, rfl, hv1, hr3⟩ := hr.cons
  obtain ⟨v2, u2, rfl, hv2, hr4⟩ := hr3.cons
  obtain ⟨hb, y, rfl, ey⟩ := hv1.l
  obtain ⟨ha, x, rfl, ex⟩ := hv2.l
  split at g4
  · rename_i p q' hp hq
    have h1 := kiv_ok hv hp
    have h2 := kiv_ok hv hq
    cases g4
    have hb := lI_ok ho (x := x) (y := y) (p := p) (q := q') (by rw [ex]; exact h1.2.1) (by rw [ex]; exact h1.2.2) (by rw [ey]; exact h2.2.1) (by rw [ey]; exact h2.2.2)
    exact so_push hv hl hr4 hI hF (kfresh_ok hv hb.1 hb.2) (hs x y u2 rfl) (fun ν' n h1 h2 => ⟨h1, lf op x y, rfl, h2.symm⟩)
  · cases g4
theorem nz_ok {b : Nat} (hv : vOK X ν K σ) (h : nz K b = true) : ν b ≠ 0 := by
  unfold nz at h
  split at h
  · rename_i q hq
    have h1 := kiv_ok hv hq
    rw [Bool.or_eq_true, decide_eq_true_eq, decide_eq_true_eq] at h
    omega
  · cases h
theorem so_load {t k : Nat} {av : AV} (h : agt lv k t = some av) (hv : vOK X ν K σ) (hl : LvR ν (kN K) lv lvc) (hr : StR ν (kN K) st stc) (hI : Inv σ) (hF : FrM md am σ0 σ)
    (hs : ∀ v, lvc[k]? = some (some v) → AVR ν (kN K) av v → stp Xc oc i pc lvc stc σ = some (pc + ilen i, lvc, v :: stc, σ)) : SO X Xc oc i pc ν (kN K) lvc stc σ md am σ0 (K, lv, av :: st) := by
  obtain ⟨h1, h2⟩ := agt_ok h
  obtain ⟨v, h3, h4⟩ := hl.2 k av h1
  exact so_same hv hl (show StR ν (kN K) (av :: st) (v :: stc) from ⟨h4, hr⟩) hI hF (hs v h3 h4)
theorem so_astA {z : Bool} {q : Ars} (h : astA am K lv st z = some q) (hv : vOK X ν K σ) (hl : LvR ν (kN K) lv lvc) (hr : StR ν (kN K) st stc) (hI : Inv σ) (hF : FrM md am σ0 σ)
    (hs : ∀ (v i' : Int32) (a n : Nat) (rc : List Value), stc = .int v :: .int i' :: .ref a :: rc → arrN z a = some n → inN i' n = true → (z = true → v = 0 ∨ v = 1) → stp Xc oc i pc lvc stc σ = some (pc + ilen i, lvc, rc, s2 σ a i'.toNatClampNeg v)) : SO X Xc oc i pc ν (kN K) lvc stc σ md am σ0 q := by
  obtain ⟨sv, r1, rfl, g5⟩ := a1_ok h
  obtain ⟨si, r2, rfl, g6⟩ := a1_ok g5
  obtain ⟨a, r, rfl, g7⟩ := a1_ok g6
  obtain ⟨n, hn, g7⟩ := Option.bind_eq_some_iff.mp g7
  obtain ⟨p, hp, g7⟩ := Option.bind_eq_some_iff.mp g7
  obtain ⟨w, hw, g7⟩ := Option.bind_eq_some_iff.mp g7
  obtain ⟨⟨c1, c2, c3, c4⟩, g7⟩ := if_ok g7
  cases g7
  obtain ⟨v1, u1, rfl, hv1, hr5⟩ := hr.cons
  obtain ⟨v2, u2, rfl, hv2, hr6⟩ := hr5.cons
  obtain ⟨v3, u3, rfl, hv3, hr7⟩ := hr6.cons
  obtain ⟨hb, v, rfl, ev⟩ := hv1.i
  obtain ⟨ha, x, rfl, ex⟩ := hv2.i
  cases hv3.r
  unfold idxOK at hp
  split at hp
  · rename_i p' hp'
    obtain ⟨⟨c5, c6⟩, hp⟩ := if_ok hp
    cases hp
    have h1 := kiv_ok hv hp'
    have h2 := kiv_ok hv hw
    have hin := idx_in (x := x) (n := n) (by omega) (by omega)
    have e : x.toNatClampNeg = (ν si).toNat := by rw [hin.2, ex]
    have hla := arrN_ok hn
    have hst := okSt_ok (j := (ν si).toNat) (v := v.toInt) c1 (by omega) (by omega) (by omega) (by omega)
    refine ⟨ν, lvc, u3, s2 σ a x.toNatClampNeg v, hs v x a n u3 rfl hn hin.1 (fun hz => ?_), xt.rf, Nat.le_refl _, ?_, hl, hr7, ?_, hF.putS (Or.inr c2)⟩
    · have := c4 hz
      have z0 : (0 : Int32).toInt = 0 := rfl
      have z1 : (1 : Int32).toInt = 1 := rfl
      rw [← Int32.toInt_inj, ← Int32.toInt_inj, z0, z1]
      omega
    · rw [e]; exact putA_ok hv hla ha (by omega) hb ev
    · rw [e]; exact hI.putA hla hst.1 hst.2 c3
  · cases hp
theorem so_aldA {scr : Option Nat} {z : Bool} {q : Ars} (h : aldA K lv st scr z = some q) (hv : vOK X ν K σ) (hl : LvR ν (kN K) lv lvc) (hr : StR ν (kN K) st stc) (hI : Inv σ) (hF : FrM md am σ0 σ)
    (hscr : ∀ L, scr = some L → ∃ (Ln : Nat) (xs : Nat → Int32), Xc = some (Ln, xs) ∧ X = Xc ∧ ν L = (Ln : Int) ∧ Ln < 2 ^ 31)
    (hs : ∀ (i' : Int32) (a n : Nat) (rc : List Value), stc = .int i' :: .ref a :: rc → a ≠ 1000 → arrN z a = some n → inN i' n = true → stp Xc oc i pc lvc stc σ = some (pc + ilen i, lvc, .int (σ a i'.toNatClampNeg) :: rc, σ))
    (hs2 : ∀ (i' : Int32) (Ln : Nat) (xs : Nat → Int32) (rc : List Value), z = false → stc = .int i' :: .ref 1000 :: rc → Xc = some (Ln, xs) → inN i' Ln = true → stp Xc oc i pc lvc stc σ = some (pc + ilen i, lvc, .int (xs i'.toNatClampNeg) :: rc, σ)) : SO X Xc oc i pc ν (kN K) lvc stc σ md am σ0 q := by
  obtain ⟨si, r2, rfl, g8⟩ := a1_ok h
  obtain ⟨a, r, rfl, g9⟩ := a1_ok g8
  obtain ⟨v2, u2, rfl, hv2, hr8⟩ := hr.cons
  obtain ⟨v3, u3, rfl, hv3, hr9⟩ := hr8.cons
  obtain ⟨ha, x, rfl, ex⟩ := hv2.i
  cases hv3.r
  split at g9
  · rename_i L hb
    have ea := Nat.eq_of_beq_eq_true hb
    subst ea
    cases z with
    | true => cases g9
    | false =>
      rw [cond_false] at g9
      split at g9
      · rename_i p hp
        obtain ⟨⟨c1, c2⟩, g9⟩ := if_ok g9
        cases g9
        obtain ⟨Ln, xs, e1, e2, e3, e4⟩ := hscr L rfl
        have h1 := kiv_ok hv hp
        have h2 := geq_ok hv c2
        have hin := idx_in (x := x) (n := Ln) (by omega) (by omega)
        have e : x.toNatClampNeg = (ν si).toNat := by rw [hin.2, ex]
        have ed : rdX X σ 1000 (ν si).toNat = xs (ν si).toNat := by rw [e2, e1]; rfl
        have hrg := rng32 (rdX X σ 1000 (ν si).toNat)
        exact so_push hv hl hr9 hI hF (kelem_ok hv ha (by omega) hrg.1 hrg.2) (hs2 x Ln xs u3 rfl rfl e1 hin.1) (fun ν' n h1 h2 => ⟨h1, _, rfl, by rw [h2, e, ed]⟩)
      · cases g9
  · cases g9
  · rename_i hb
    have ea : a ≠ 1000 := fun e => by rw [e] at hb; cases hb
    obtain ⟨n, hn, g9⟩ := Option.bind_eq_some_iff.mp g9
    obtain ⟨p, hp, g9⟩ := Option.bind_eq_some_iff.mp g9
    cases g9
    unfold idxOK at hp
    split at hp
    · rename_i p' hp'
      obtain ⟨⟨c5, c6⟩, hp⟩ := if_ok hp
      cases hp
      have h1 := kiv_ok hv hp'
      have hin := idx_in (x := x) (n := n) (by omega) (by omega)
      have e : x.toNatClampNeg = (ν si).toNat := by rw [hin.2, ex]
      have hiv := ivr_ok (k := a) (j := (ν si).toNat) (l := p.1) (h := p.2) (by omega) (by omega)
      have hI2 := hI.1 a (ν si).toNat
      have ed : rdX X σ a (ν si).toNat = σ a (ν si).toNat := rdX_ne ea
      exact so_push hv hl hr9 hI hF (kelem_ok hv ha (by omega) (by rw [ed]; omega) (by rw [ed]; omega)) (hs x a n u3 rfl ea hn hin.1) (fun ν' n h1 h2 => ⟨h1, _, rfl, by rw [h2, e, ed]⟩)
    · cases hp
set_option maxHeartbeats 4000000 in
theorem astep_ok {scr : Option Nat} {q : Ars} (h : astep md am scr oc i K lv st = some q) (hv : vOK X ν K σ) (hl : LvR ν (kN K) lv lvc) (hr : StR ν (kN K) st stc) (hI : Inv σ) (hF : FrM md am σ0 σ)
    (hscr : ∀ L, scr = some L → ∃ (Ln : Nat) (xs : Nat → Int32), Xc = some (Ln, xs) ∧ X = Xc ∧ ν L = (Ln : Int) ∧ Ln < 2 ^ 31 ∧ L < kN K) : SO X Xc oc i pc ν (kN K) lvc stc σ md am σ0 q := by
  have hscr2 : ∀ L, scr = some L → ∃ (Ln : Nat) (xs : Nat → Int32), Xc = some (Ln, xs) ∧ X = Xc ∧ ν L = (Ln : Int) ∧ Ln < 2 ^ 31 := fun L hL => by
    obtain ⟨a, b, c1, c2, c3, c4, -⟩ := hscr L hL; exact ⟨a, b, c1, c2, c3, c4⟩
  cases i with
  | iconst n => cases h; exact so_push hv hl hr hI hF (kconst_ok hv _) rfl (fun ν' n h1 h2 => ⟨h1, _, rfl, h2.symm⟩)
  | bipush n => cases h; exact so_push hv hl hr hI hF (kconst_ok hv _) rfl (fun ν' n h1 h2 => ⟨h1, _, rfl, h2.symm⟩)
  | sipush n => cases h; exact so_push hv hl hr hI hF (kconst_ok hv _) rfl (fun ν' n h1 h2 => ⟨h1, _, rfl, h2.symm⟩)
  | lconst n => cases h; exact so_push hv hl hr hI hF (kconst_ok hv _) rfl (fun ν' n h1 h2 => ⟨h1, _, rfl, h2.symm⟩)
  | ldc idx =>
    obtain ⟨v, h1, h⟩ := Option.bind_eq_some_iff.mp h
    cases h
    exact so_push hv hl hr hI hF (kconst_ok hv _) (by simp only [stp, h1]; rfl) (fun ν' n h1 h2 => ⟨h1, _, rfl, h2.symm⟩)
  | ldc_w idx =>
    obtain ⟨v, h1, h⟩ := Option.bind_eq_some_iff.mp h
    cases h
    exact so_push hv hl hr hI hF (kconst_ok hv _) (by simp only [stp, h1]; rfl) (fun ν' n h1 h2 => ⟨h1, _, rfl, h2.symm⟩)
  | ldc2_w idx =>
    obtain ⟨v, h1, h⟩ := Option.bind_eq_some_iff.mp h
    cases h
    exact so_push hv hl hr hI hF (kconst_ok hv _) (by simp only [stp, h1]; rfl) (fun ν' n h1 h2 => ⟨h1, _, rfl, h2.symm⟩)
  | iload_n k =>
    obtain ⟨av, h1, h⟩ := Option.bind_eq_some_iff.mp h
    cases h
    refine so_load h1 hv hl hr hI hF (fun v e1 e2 => ?_)
    have et := (agt_ok h1).2
    obtain ⟨t, s⟩ := av
    cases et
    obtain ⟨x, rfl, -⟩ := e2.2
    simp only [stp, gi, e1]; rfl
  | iload k =>
    obtain ⟨av, h1, h⟩ := Option.bind_eq_some_iff.mp h
    cases h
    refine so_load h1 hv hl hr hI hF (fun v e1 e2 => ?_)
    have et := (agt_ok h1).2
    obtain ⟨t, s⟩ := av
    cases et
    obtain ⟨x, rfl, -⟩ := e2.2
    simp only [stp, gi, e1]; rfl
  | lload_n k =>
    obtain ⟨av, h1, h⟩ := Option.bind_eq_some_iff.mp h
    cases h
    refine so_load h1 hv hl hr hI hF (fun v e1 e2 => ?_)
    have et := (agt_ok h1).2
    obtain ⟨t, s⟩ := av
    cases et
    obtain ⟨x, rfl, -⟩ := e2.2
    simp only [stp, gl, e1]; rfl
  | lload k =>
    obtain ⟨av, h1, h⟩ := Option.bind_eq_some_iff.mp h
    cases h
    refine so_load h1 hv hl hr hI hF (fun v e1 e2 => ?_)
    have et := (agt_ok h1).2
    obtain ⟨t, s⟩ := av
    cases et
    obtain ⟨x, rfl, -⟩ := e2.2
    simp only [stp, gl, e1]; rfl
  | aload_n k =>
    obtain ⟨av, h1, h⟩ := Option.bind_eq_some_iff.mp h
    cases h
    refine so_load h1 hv hl hr hI hF (fun v e1 e2 => ?_)
    have et := (agt_ok h1).2
    obtain ⟨t, s⟩ := av
    cases et
    cases e2.r
    simp only [stp, ga, e1]; rfl
  | aload k =>
    obtain ⟨av, h1, h⟩ := Option.bind_eq_some_iff.mp h
    cases h
    refine so_load h1 hv hl hr hI hF (fun v e1 e2 => ?_)
    have et := (agt_ok h1).2
    obtain ⟨t, s⟩ := av
    cases et
    cases e2.r
    simp only [stp, ga, e1]; rfl
  | istore_n k =>
    simp only [astep] at h
    obtain ⟨s, r, rfl, g10⟩ := a1_ok h
    obtain ⟨hk, g10⟩ := if_ok g10
    cases g10
    obtain ⟨v, u, rfl, hv1, hr10⟩ := hr.cons
    obtain ⟨-, x, rfl, -⟩ := hv1.i
    exact so_same hv (hl.st1 k hv1) hr10 hI hF (by simp only [stp, p1]; rw [if_pos (by rw [← hl.1]; exact hk)]; rfl)
  | istore k =>
    simp only [astep] at h
    obtain ⟨s, r, rfl, g11⟩ := a1_ok h
    obtain ⟨hk, g11⟩ := if_ok g11
    cases g11
    obtain ⟨v, u, rfl, hv1, hr11⟩ := hr.cons
    obtain ⟨-, x, rfl, -⟩ := hv1.i
    exact so_same hv (hl.st1 k hv1) hr11 hI hF (by simp only [stp, p1]; rw [if_pos (by rw [← hl.1]; exact hk)]; rfl)
  | lstore_n k =>
    simp only [astep] at h
    obtain ⟨s, r, rfl, g12⟩ := a1_ok h
    obtain ⟨hk, g12⟩ := if_ok g12
    cases g12
    obtain ⟨v, u, rfl, hv1, hr12⟩ := hr.cons
    obtain ⟨-, x, rfl, -⟩ := hv1.l
    exact so_same hv (hl.st2 k hv1) hr12 hI hF (by simp only [stp, q1]; rw [if_pos (by rw [← hl.1]; exact hk)]; rfl)
  | lstore k =>
    simp only [astep] at h
    obtain ⟨s, r, rfl, g13⟩ := a1_ok h
    obtain ⟨hk, g13⟩ := if_ok g13
    cases g13
    obtain ⟨v, u, rfl, hv1, hr13⟩ := hr.cons
    obtain ⟨-, x, rfl, -⟩ := hv1.l
    exact so_same hv (hl.st2 k hv1) hr13 hI hF (by simp only [stp, q1]; rw [if_pos (by rw [← hl.1]; exact hk)]; rfl)
  | iinc k n =>
    obtain ⟨av, h1, h⟩ := Option.bind_eq_some_iff.mp h
    obtain ⟨z, hz, h⟩ := Option.bind_eq_some_iff.mp h
    cases h
    obtain ⟨e0, et⟩ := agt_ok h1
    obtain ⟨t, s⟩ := av
    cases et
    obtain ⟨v, e1, e2⟩ := hl.2 k _ e0
    obtain ⟨hs, x, rfl, ex⟩ := e2.i
    obtain ⟨ν1, x1, x2, x3, x4, x5, x6⟩ := kconst_ok hv (Int32.ofInt n).toInt
    obtain ⟨ν2, y1, y2, y3, y4, y5, y6⟩ := kbin_ok x3 (op := 1) (a := s) (x := x) (y := Int32.ofInt n) (by decide) (by rw [x1 s hs]; exact ex) x5.symm hz
    refine ⟨ν2, sl1 lvc k (.int (x + Int32.ofInt n)), stc, σ, by simp only [stp, gi, e1]; rfl, x1.trans y1 x2, Nat.le_trans x2 y2, y3, ?_, hr.mono (x1.trans y1 x2) (Nat.le_trans x2 y2), hI, hF⟩
    exact (hl.mono (x1.trans y1 x2) (Nat.le_trans x2 y2)).st1 k ⟨y4, _, rfl, y5.symm⟩
  | iadd => exact so_abin (by decide) h hv hl hr hI hF (fun x y rc e => by rw [e]; rfl)
  | isub => exact so_abin (by decide) h hv hl hr hI hF (fun x y rc e => by rw [e]; rfl)
  | imul => exact so_abin (by decide) h hv hl hr hI hF (fun x y rc e => by rw [e]; rfl)
  | iand => exact so_abin (by decide) h hv hl hr hI hF (fun x y rc e => by rw [e]; rfl)
  | ior => exact so_abin (by decide) h hv hl hr hI hF (fun x y rc e => by rw [e]; rfl)
  | ixor => exact so_abin (by decide) h hv hl hr hI hF (fun x y rc e => by rw [e]; rfl)
  | ishl => exact so_abin (by decide) h hv hl hr hI hF (fun x y rc e => by rw [e]; rfl)
  | ishr => exact so_abin (by decide) h hv hl hr hI hF (fun x y rc e => by rw [e]; rfl)
  | iushr => exact so_abin (by decide) h hv hl hr hI hF (fun x y rc e => by rw [e]; rfl)
  | idiv =>
    simp only [astep] at h
    obtain ⟨b, r1, rfl, g14⟩ := a1_ok h
    obtain ⟨hnz, g14⟩ := if_ok g14
    obtain ⟨v1, u1, rfl, hv1, -⟩ := id hr.cons
    obtain ⟨-, y0, rfl, ey⟩ := hv1.i
    have hne : ¬ y0 = 0 := fun e => nz_ok hv hnz (by rw [← ey, e]; rfl)
    refine so_abin (by decide) g14 hv hl hr hI hF (fun x y rc e => ?_)
    cases e
    simp only [stp, p2]; rw [if_neg hne]; rfl
  | irem =>
    simp only [astep] at h
    obtain ⟨b, r1, rfl, g15⟩ := a1_ok h
    obtain ⟨hnz, g15⟩ := if_ok g15
    obtain ⟨v1, u1, rfl, hv1, -⟩ := id hr.cons
    obtain ⟨-, y0, rfl, ey⟩ := hv1.i
    have hne : ¬ y0 = 0 := fun e => nz_ok hv hnz (by rw [← ey, e]; rfl)
    refine so_abin (by decide) g15 hv hl hr hI hF (fun x y rc e => ?_)
    cases e
    simp only [stp, p2]; rw [if_neg hne]; rfl
  | i2l =>
    simp only [astep] at h
    obtain ⟨s, r, rfl, g16⟩ := a1_ok h
    cases g16
    obtain ⟨v, u, rfl, hv1, hr14⟩ := hr.cons
    obtain ⟨hs, x, rfl, ex⟩ := hv1.i
    exact so_same (rc := .long x.toInt64 :: u) hv hl ⟨⟨hs, x.toInt64, rfl, by rw [Int32.toInt_toInt64]; exact ex⟩, hr14⟩ hI hF rfl
  | l2i =>
    simp only [astep] at h
    obtain ⟨s, r, rfl, g17⟩ := a1_ok h
    obtain ⟨v, u, rfl, hv1, hr15⟩ := hr.cons
    obtain ⟨hs, x, rfl, ex⟩ := hv1.l
    split at g17
    · rename_i p hp
      have h1 := kiv_ok hv hp
      split at g17
      · rename_i hc
        cases g17
        exact so_same (rc := .int x.toInt32 :: u) hv hl ⟨⟨hs, x.toInt32, rfl, by rw [Int64.toInt_toInt32, ex]; exact bm32 (by omega) (by omega)⟩, hr15⟩ hI hF rfl
      · cases g17
        have hrg := rng32 x.toInt32
        exact so_push hv hl hr15 hI hF (kfresh_ok hv hrg.1 hrg.2) rfl (fun ν' n h1 h2 => ⟨h1, _, rfl, h2.symm⟩)
    · cases g17
  | ladd => exact so_alng rfl h hv hl hr hI hF (fun x y rc e => by rw [e]; rfl)
  | lmul => exact so_alng rfl h hv hl hr hI hF (fun x y rc e => by rw [e]; rfl)
  | land => exact so_alng rfl h hv hl hr hI hF (fun x y rc e => by rw [e]; rfl)
  | ldiv =>
    simp only [astep] at h
    obtain ⟨b, r1, rfl, g18⟩ := a1_ok h
    obtain ⟨hnz, g18⟩ := if_ok g18
    obtain ⟨v1, u1, rfl, hv1, -⟩ := id hr.cons
    obtain ⟨-, y0, rfl, ey⟩ := hv1.l
    have hne : ¬ y0 = 0 := fun e => nz_ok hv hnz (by rw [← ey, e]; rfl)
    refine so_alng rfl g18 hv hl hr hI hF (fun x y rc e => ?_)
    cases e
    simp only [stp, q2]; rw [if_neg hne]; rfl
  | lrem =>
    simp only [astep] at h
    obtain ⟨b, r1, rfl, g19⟩ := a1_ok h
    obtain ⟨hnz, g19⟩ := if_ok g19
    obtain ⟨v1, u1, rfl, hv1, -⟩ := id hr.cons
    obtain ⟨-, y0, rfl, ey⟩ := hv1.l
    have hne : ¬ y0 = 0 := fun e => nz_ok hv hnz (by rw [← ey, e]; rfl)
    refine so_alng rfl g19 hv hl hr hI hF (fun x y rc e => ?_)
    cases e
    simp only [stp, q2]; rw [if_neg hne]; rfl
  | lcmp =>
    simp only [astep] at h
    obtain ⟨b, r1, rfl, g20⟩ := a1_ok h
    obtain ⟨a, r, rfl, g21⟩ := a1_ok g20
    cases g21
    obtain ⟨v1, u1, rfl, hv1, hr16⟩ := hr.cons
    obtain ⟨v2, u2, rfl, hv2, hr17⟩ := hr16.cons
    obtain ⟨hb, y, rfl, ey⟩ := hv1.l
    obtain ⟨ha, x, rfl, ex⟩ := hv2.l
    have hden : den ν (50, (a : Int), (b : Int)) = (lg_cmp x y).toInt := by
      show (if ν (b : Int).toNat < ν (a : Int).toNat then (1 : Int) else if ν (a : Int).toNat = ν (b : Int).toNat then 0 else -1) = _
      rw [Int.toNat_natCast, Int.toNat_natCast, ← ex, ← ey]
      unfold lg_cmp
      simp only [gt_iff_lt, Int64.lt_iff_toInt_lt, ← Int64.toInt_inj]
      split
      · rfl
      · split <;> rfl
    have hg := kdef_ok hv (t := (50, (a : Int), (b : Int))) (lo := -1) (hi := 1) (Or.inr ⟨by simpa using ha, by simpa using hb⟩) (by rw [hden]; unfold lg_cmp; split; decide; split <;> decide) (by rw [hden]; unfold lg_cmp; split; decide; split <;> decide)
    rw [hden] at hg
    exact so_push hv hl hr17 hI hF hg rfl (fun ν' n h1 h2 => ⟨h1, _, rfl, h2.symm⟩)
  | dup =>
    match st, h, hr with
    | v :: r, h, hr =>
      cases hb : Nat.beq v.1 1 with
      | true => simp only [astep, hb, cond_true] at h; cases h
      | false =>
        simp only [astep, hb, cond_false] at h
        cases h
        obtain ⟨w, u, rfl, hv1, hr18⟩ := hr.cons
        have hc : w.category = 1 := by rw [hv1.cat]; unfold acat; rw [hb]; rfl
        exact so_same (rc := w :: w :: u) hv hl ⟨hv1, hv1, hr18⟩ hI hF (by simp only [stp]; rw [if_pos hc]; rfl)
  | dup2 =>
    match st, h, hr with
    | v :: v' :: r, h, hr =>
      cases hb : (Nat.beq v.1 1 || Nat.beq v'.1 1) with
      | true => simp only [astep, hb, cond_true] at h; cases h
      | false =>
        simp only [astep, hb, cond_false] at h
        cases h
        obtain ⟨w, u, rfl, hv1, hr19⟩ := hr.cons
        obtain ⟨w', u', rfl, hv2, hr20⟩ := hr19.cons
        rw [Bool.or_eq_false_iff] at hb
        have hc : w.category = 1 := by rw [hv1.cat]; unfold acat; rw [hb.1]; rfl
        have hc' : w'.category = 1 := by rw [hv2.cat]; unfold acat; rw [hb.2]; rfl
        exact so_same (rc := w :: w' :: w :: w' :: u') hv hl ⟨hv1, hv2, hv1, hv2, hr20⟩ hI hF (by simp only [stp]; rw [if_pos ⟨hc, hc'⟩]; rfl)
  | pop =>
    match st, h, hr with
    | v :: r, h, hr =>
      cases hb : Nat.beq v.1 1 with
      | true => simp only [astep, hb, cond_true] at h; cases h
      | false =>
        simp only [astep, hb, cond_false] at h
        cases h
        obtain ⟨w, u, rfl, hv1, hr21⟩ := hr.cons
        have hc : w.category = 1 := by rw [hv1.cat]; unfold acat; rw [hb]; rfl
        exact so_same hv hl hr21 hI hF (by simp only [stp]; rw [if_pos hc]; rfl)
  | getfield idx =>
    simp only [astep] at h
    obtain ⟨a, r, rfl, g22⟩ := a1_ok h
    obtain ⟨w, h1, g22⟩ := Option.bind_eq_some_iff.mp g22
    obtain ⟨fl, h2, g22⟩ := Option.bind_eq_some_iff.mp g22
    obtain ⟨v, u, rfl, hv1, hr22⟩ := hr.cons
    cases hv1.r
    split at g22
    · rename_i hf
      cases g22
      exact so_push hv hl hr22 hI hF (kslot_ok hv hI.1 a w.2) (by simp only [stp, pr, h1, Option.bind_some, h2, hf]; rfl) (fun ν' n h1 h2 => ⟨h1, _, rfl, h2.symm⟩)
    · rename_i t hf
      cases g22
      exact so_same (rc := .ref t :: u) hv hl ⟨rfl, hr22⟩ hI hF (by simp only [stp, pr, h1, Option.bind_some, h2, hf]; rfl)
    · cases g22
  | putfield idx =>
    simp only [astep] at h
    obtain ⟨s, r1, rfl, g23⟩ := a1_ok h
    obtain ⟨a, r, rfl, g24⟩ := a1_ok g23
    obtain ⟨w, h1, g24⟩ := Option.bind_eq_some_iff.mp g24
    obtain ⟨fl, h2, g24⟩ := Option.bind_eq_some_iff.mp g24
    obtain ⟨v0, u0, rfl, hv0, hr23⟩ := hr.cons
    obtain ⟨v, u, rfl, hv1, hr24⟩ := hr23.cons
    cases hv1.r
    obtain ⟨hs, x, rfl, ex⟩ := hv0.i
    split at g24
    · rename_i hf
      obtain ⟨p, hp, g24⟩ := Option.bind_eq_some_iff.mp g24
      obtain ⟨⟨c1, c2, c3⟩, g24⟩ := if_ok g24
      cases g24
      have h3 := kiv_ok hv hp
      have h4 := sub_ok c1
      have hla := objF_ok h2
      exact ⟨ν, lvc, u, s2 σ a w.2 x, by simp only [stp, p1, pr, h1, Option.bind_some, h2, hf]; rfl, xt.rf, Nat.le_refl _, putS_ok hv hI hla hs ex, hl, hr24, hI.putS hla (by omega) (by omega) c3, hF.putS (Or.inl c2)⟩
    · cases g24
  | iaload =>
    refine so_aldA h hv hl hr hI hF hscr2 (fun i' a n rc e e1 e2 e3 => ?_) (fun i' Ln xs rc e0 e e1 e2 => ?_)
    · subst e
      simp only [stp, p1, pr]
      split
      · rw [if_neg e1, e2, Option.bind_some, if_pos e3]; rfl
      · rw [e2, Option.bind_some, if_pos e3]; rfl
    · subst e
      subst e1
      simp only [stp, p1, pr]
      rw [if_pos trivial, if_pos e2]; rfl
  | baload =>
    refine so_aldA h hv hl hr hI hF hscr2 (fun i' a n rc e e1 e2 e3 => ?_) (fun i' Ln xs rc e0 e e1 e2 => by cases e0)
    subst e
    simp only [stp, p1, pr]
    rw [e2, Option.bind_some, if_pos e3]; rfl
  | iastore =>
    refine so_astA h hv hl hr hI hF (fun v i' a n rc e e1 e2 _ => ?_)
    subst e
    simp only [stp, p1, pr]
    rw [e1, Option.bind_some, if_pos e2]; rfl
  | bastore =>
    refine so_astA h hv hl hr hI hF (fun v i' a n rc e e1 e2 e3 => ?_)
    subst e
    have hn : vp_nar .boolean v = v := by rcases e3 rfl with e | e <;> subst e <;> rfl
    simp only [stp, p1, pr]
    rw [e1, Option.bind_some, if_pos e2, hn]; rfl
  | arraylength =>
    simp only [astep] at h
    obtain ⟨a, r, rfl, g25⟩ := a1_ok h
    obtain ⟨v, u, rfl, hv1, hr25⟩ := hr.cons
    cases hv1.r
    split at g25
    · rename_i L hb
      have ea := Nat.eq_of_beq_eq_true hb
      subst ea
      cases g25
      obtain ⟨Ln, xs, e1, e2, e3, e4, e5⟩ := hscr L rfl
      subst e1
      exact so_same (rc := .int (Int32.ofNat Ln) :: u) hv hl ⟨⟨e5, Int32.ofNat Ln, rfl, by rw [e3]; exact Int32.toInt_ofNat_of_lt e4⟩, hr25⟩ hI hF (by simp only [stp, pr]; rfl)
    · cases g25
    · rename_i hb
      have ea : ¬ a = 1000 := fun e => by rw [e] at hb; cases hb
      obtain ⟨n, hn, g25⟩ := Option.bind_eq_some_iff.mp g25
      cases g25
      refine so_push hv hl hr25 hI hF (kconst_ok hv _) ?_ (fun ν' n h1 h2 => ⟨h1, _, rfl, h2.symm⟩)
      simp only [stp, pr]
      split
      · rw [if_neg ea, hn]; rfl
      · rw [hn]; rfl
  | _ => cases h
end AStep
