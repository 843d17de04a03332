def wideB (q : Nat × List (Nat × Int × Int) × Int × Int) : Bool := decide (lo32 ≤ q.2.2.1) && decide (q.2.2.2 ≤ hi32) && q.2.1.all (fun z => decide (lo32 ≤ z.2.1) && decide (z.2.2 ≤ hi32))
theorem wide_all : tiv.all wideB = true := by decide +kernel
theorem fold_in (l : List (Nat × Int × Int)) : ∀ r : Int × Int, lo32 ≤ r.1 → r.2 ≤ hi32 → (∀ z ∈ l, lo32 ≤ z.2.1 ∧ z.2.2 ≤ hi32) → lo32 ≤ (l.foldl (fun r z => (min r.1 z.2.1, max r.2 z.2.2)) r).1 ∧ (l.foldl (fun r z => (min r.1 z.2.1, max r.2 z.2.2)) r).2 ≤ hi32 := by
  induction l with
  | nil => intro r h1 h2 _; exact ⟨h1, h2⟩
  | cons q t ih =>
    intro r h1 h2 h3
    have h4 := h3 q List.mem_cons_self
    exact ih _ (by dsimp only; omega) (by dsimp only; omega) (fun z hz => h3 z (List.mem_cons_of_mem _ hz))
theorem iv_wide (k : Nat) : lo32 ≤ (ivAll k).1 ∧ (ivAll k).2 ≤ hi32 := by
  unfold ivAll
  cases hq : pk tiv k with
  | none => exact ⟨Int.le_refl _, Int.le_refl _⟩
  | some q =>
    have h := List.all_eq_true.mp wide_all _ (pkn_mem hq)
    unfold wideB at h
    rw [Bool.and_eq_true, Bool.and_eq_true, decide_eq_true_eq, decide_eq_true_eq] at h
    refine fold_in q.1 q.2 h.1.1 h.1.2 (fun z hz => ?_)
    have h2 := List.all_eq_true.mp h.2 z hz
    rw [Bool.and_eq_true, decide_eq_true_eq, decide_eq_true_eq] at h2
    exact h2
section GoSound
variable {ct : List Con} {con : Con} {cuts : List Cut} {ea : List (Option Nat)} {es : Es} {sm : Option (List (Nat × Bool))} {scr : Option Nat} {X : Scr} {vs : List Value} {σ0 : St} {M0 : List Int} {Q : Option Value → St → Prop}
/-- what holds at a state of the checker's walk -/
def Here (con : Con) (ea : List (Option Nat)) (es : Es) (sm : Option (List (Nat × Bool))) (scr : Option Nat) (X : Scr) (vs : List Value) (σ0 : St) (M0 : List Int) (K : Kn) (y : Nat) (lv : ALv) (st : List AV) (fr : List Fr) (ν : Nat → Int) (σ : St) (lvc : Lv) (stc : List Value) (frc : List Frc) : Prop :=
  vOK X ν K σ ∧ LvR ν (kN K) lv lvc ∧ StR ν (kN K) st stc ∧ FrR ν (kN K) fr frc ∧ yb y fr = cY con ∧ Inv σ ∧ FrM (cMd con) (cAm con) σ0 σ ∧ EnR X ν (kN K) ea es sm scr vs σ0 M0
def Goal (con : Con) (ea : List (Option Nat)) (es : Es) (sm : Option (List (Nat × Bool))) (scr : Option Nat) (X : Scr) (vs : List Value) (σ0 : St) (M0 : List Int) (Q : Option Value → St → Prop) (K : Kn) (y pc : Nat) (lv : ALv) (st : List AV) (fr : List Fr) : Prop :=
  ∀ (ν : Nat → Int) (σ : St) (lvc : Lv) (stc : List Value) (frc : List Frc), Here con ea es sm scr X vs σ0 M0 K y lv st fr ν σ lvc stc frc → PW (Xof X frc) y pc lvc stc σ (QF X Q frc)
/-- a call by contract -/
theorem by_con {K : Kn} {args : List AV} {vsC : List Value} {y y' : Nat} {c : Con} {rest : List AV} {restc : List Value} {lv : ALv} {lvc : Lv} {fr : List Fr} {frc : List Frc} {ν : Nat → Int} {σ : St} {pc : Nat} (hct : ∀ c ∈ ct, Sat c) (hc : fcon K args y' ct = some c) (h3 : (cMd c).all (fun q => inP (cMd con) q.1 q.2) = true) (h4 : (cAm c).all (inN1 (cAm con)) = true)
    (hal : ∀ a ∈ cAl c, ∃ z, altK (mkEs K (cTk c)).1 (eaOf args) (mkEs K (cTk c)).2 c (mRK y') a = some z ∧ Goal con ea es sm scr X vs σ0 M0 Q z.1 y pc lv (z.2 ++ rest) fr)
    (hv : vOK X ν K σ) (hl : LvR ν (kN K) lv lvc) (ha : StR ν (kN K) args vsC) (hr : StR ν (kN K) rest restc) (hfr : FrR ν (kN K) fr frc) (hy : yb y fr = cY con) (hI : Inv σ) (hF : FrM (cMd con) (cAm con) σ0 σ) (hE : EnR X ν (kN K) ea es sm scr vs σ0 M0) :
    PW none y' 0 (ent y' vsC) [] σ (fun r σ' => PW (Xof X frc) y pc lvc (r.toList ++ restc) σ' (QF X Q frc)) := by
  obtain ⟨c1, c2⟩ := fcon_ok hc
  unfold cok at c2
  rw [Bool.and_eq_true, Bool.and_eq_true, Bool.and_eq_true] at c2
  obtain ⟨⟨⟨d1, d2⟩, d3⟩, d4⟩ := c2
  have ey := Nat.eq_of_beq_eq_true d1
  obtain ⟨ν1, x1, x2, x3, x4, x5⟩ := mkEs_ok (l := cTk c) hv hI.1
  have ha1 := eaOf_ok (ha.mono x1 x2)
  have hsat := hct c c1 vsC σ hI (argsOK_ok d2 hv ha) (fun f hf => chkFc_ok (List.all_eq_true.mp d3 f hf) x3 hI.1 ha1 x4 ReR.no LvR.no) (fun hg => by
    rw [Bool.or_eq_true, Bool.not_eq_true'] at d4
    rcases d4 with d4 | d4
    · rw [hg] at d4; cases d4
    · exact hv.2.2.2.2.2 d4)
  rw [ey] at hsat
  refine hsat.mono (fun r σ' hq => ?_)
  obtain ⟨q1, q2, q3, a, q4, q5⟩ := hq
  obtain ⟨z, z1, z2⟩ := hal a q4
  obtain ⟨ν2, y1, y2, y3, y4⟩ := altK_ok (r := r) (vs := vsC) z1 x3 q1.1 ha1 x4 q2 q3 q5
  have xx := x1.trans y1 x2
  have nn : kN K ≤ kN z.1 := Nat.le_trans x2 y2
  exact z2 ν2 σ' lvc (r.toList ++ restc) frc ⟨y3, hl.mono xx nn, StR.app y4 (hr.mono xx nn), hfr.mono xx nn, hy, q1, hF.call q2 h3 h4, hE.mono xx nn⟩
theorem acpB_ok {K : Kn} {st : List AV} {z : Kn × List AV} {ν : Nat → Int} {σ : St} {stc : List Value} {lvc : Lv} {pc : Nat} {am : List Nat} {md : List (Nat × Nat)} (h : acpB am K st = some z) (hv : vOK X ν K σ) (hr : StR ν (kN K) st stc) (hI : Inv σ) (hF : FrM md am σ0 σ) :
    ∃ (rc : List Value) (σ' : St), acp pc lvc stc σ = some (pc + 3, lvc, rc, σ') ∧ vOK X ν z.1 σ' ∧ kN z.1 = kN K ∧ StR ν (kN K) z.2 rc ∧ Inv σ' ∧ FrM md am σ0 σ' := by
  match st, h, hr with
  | n :: d :: b :: s :: a :: r, h, hr =>
    simp only [acpB] at h
    obtain ⟨⟨t1, t2, t3, t4, t5⟩, h⟩ := if_ok h
    obtain ⟨tn, sn⟩ := n
    obtain ⟨td, sd⟩ := d
    obtain ⟨tb, b⟩ := b
    obtain ⟨ts, ss⟩ := s
    obtain ⟨ta, a⟩ := a
    have e1 := Nat.eq_of_beq_eq_true t1
    have e2 := Nat.eq_of_beq_eq_true t2
    have e3 := Nat.eq_of_beq_eq_true t3
    have e4 := Nat.eq_of_beq_eq_true t4
    have e5 := Nat.eq_of_beq_eq_true t5
    dsimp only at e1 e2 e3 e4 e5
    subst e1; subst e2; subst e3; subst e4; subst e5
    obtain ⟨v1, u1, rfl, hv1, hr1⟩ := hr.cons
    obtain ⟨v2, u2, rfl, hv2, hr2⟩ := hr1.cons
    obtain ⟨v3, u3, rfl, hv3, hr3⟩ := hr2.cons
    obtain ⟨v4, u4, rfl, hv4, hr4⟩ := hr3.cons
    obtain ⟨v5, u5, rfl, hv5, hr5⟩ := hr4.cons
    obtain ⟨g1, xn, rfl, ex1⟩ := hv1.i
    obtain ⟨g2, xd, rfl, ex2⟩ := hv2.i
    obtain ⟨g4, xs, rfl, ex4⟩ := hv4.i
    cases hv3.r
    cases hv5.r
    have core : ∀ (na nb : Nat) (pn pd ps : Int × Int), arrN false a = some na → arrN false b = some nb → kiv K sn = some pn → kiv K sd = some pd → kiv K ss = some ps → 0 ≤ pn.1 → 0 ≤ pd.1 → 0 ≤ ps.1 → ps.2 + pn.2 ≤ (na : Int) → pd.2 + pn.2 ≤ (nb : Int) → inN1 am b = true → inN1 prA b = false → ¬ b = gA → ¬ b = gB → (r.map acat).sum ≤ 8 →
        (∀ j : Nat, (iv b j).1 ≤ (ivAll a).1 ∧ (ivAll a).2 ≤ (iv b j).2) → z = ((kE K, kN K, kG K, kD K, (kC K).filter (fun q => !(Nat.beq q.1.1 b)), (kA K).filter (fun q => !(Nat.beq q.1.1 b)), kg K), r) →
        ∃ (rc : List Value) (σ' : St), acp pc lvc (Value.int xn :: Value.int xd :: Value.ref b :: Value.int xs :: Value.ref a :: u5) σ = some (pc + 3, lvc, rc, σ') ∧ vOK X ν z.1 σ' ∧ kN z.1 = kN K ∧ StR ν (kN K) z.2 rc ∧ Inv σ' ∧ FrM md am σ0 σ' := by
      intro na nb pn pd ps hna hnb hpn hpd hps c1 c2 c3 c4 c5 c6 c7 c8 c9 c10 civ hz
      have k1 := kiv_ok hv hpn
      have k2 := kiv_ok hv hpd
      have k3 := kiv_ok hv hps
      have z0 : (0 : Int32).toInt = 0 := rfl
      have ln : xn.toNatClampNeg = xn.toInt.toNat := rfl
      have ld : xd.toNatClampNeg = xd.toInt.toNat := rfl
      have lsx : xs.toNatClampNeg = xs.toInt.toNat := rfl
      have hlb := arrN_ok hnb
      have hc : (¬ xs < 0 ∧ ¬ xd < 0 ∧ ¬ xn < 0 ∧ xs.toNatClampNeg + xn.toNatClampNeg ≤ na ∧ xd.toNatClampNeg + xn.toNatClampNeg ≤ nb) ∧ (u5.map fun v => v.category).sum ≤ 8 := by
        refine ⟨⟨?_, ?_, ?_, ?_, ?_⟩, by rw [hr5.sum]; exact c10⟩
        · rw [Int32.lt_iff_toInt_lt]; omega
        · rw [Int32.lt_iff_toInt_lt]; omega
        · rw [Int32.lt_iff_toInt_lt]; omega
        · omega
        · omega
      have nO : ∀ o : Nat, (∃ ci fl, lay[o]? = some (.inr (ci, fl))) → o ≠ b := by
        rintro o ⟨ci, fl, ho⟩ e
        rw [e, hlb] at ho; cases ho
      have gne : gO ≠ b := nO gO ⟨_, _, rfl⟩
      have qne : qO ≠ b := nO qO ⟨_, _, rfl⟩
      have nA : qA ≠ b := fun e => inN1_mem c7 (by rw [← e]; exact List.mem_cons_self)
      have nB : qB ≠ b := fun e => inN1_mem c7 (by rw [← e]; exact List.mem_cons_of_mem _ List.mem_cons_self)
      have ent2 : ∀ j : Nat, ∃ j2 a2, va_cpy (σ a) (σ b) xs.toNatClampNeg xd.toNatClampNeg xn.toNatClampNeg j = σ a2 j2 ∧ ((a2 = a) ∨ (a2 = b ∧ j2 = j)) := by
        intro j
        unfold va_cpy
        split
        · exact ⟨_, a, rfl, Or.inl rfl⟩
        · exact ⟨j, b, rfl, Or.inr ⟨rfl, rfl⟩⟩
      refine ⟨u5, sr σ b (va_cpy (σ a) (σ b) xs.toNatClampNeg xd.toNatClampNeg xn.toNatClampNeg), ?_, ?_, ?_, ?_, ⟨fun k j => ?_, fun l hlt => ?_⟩, fun k j e1 e2 => ?_⟩
      · simp only [acp, hna, hnb, Option.bind_some]
        rw [if_pos hc]
      · rw [hz]
        obtain ⟨hE, hG, hD, hC, hA, hg⟩ := hv
        refine ⟨hE, hG, hD, fun q hq => ?_, fun q hq => ?_, fun hg' l hlt => ?_⟩
        · obtain ⟨q1, q2⟩ := List.mem_filter.mp hq
          obtain ⟨w1, w2⟩ := hC q q1
          have ne : ¬ q.1.1 = b := fun e => by rw [e, Nat.beq_refl] at q2; cases q2
          exact ⟨w1, by rw [sr_ne _ _ ne]; exact w2⟩
        · obtain ⟨q1, q2⟩ := List.mem_filter.mp hq
          obtain ⟨w1, w2, w3, w4⟩ := hA q q1
          have ne : ¬ q.1.1 = b := fun e => by rw [e, Nat.beq_refl] at q2; cases q2
          refine ⟨w1, w2, w3, ?_⟩
          rw [w4]
          unfold rdX
          split
          · split
            · rfl
            · rw [sr_ne _ _ ne]
          · rw [sr_ne _ _ ne]
        · rw [sr_ne _ _ gne] at hlt
          rw [sr_ne _ _ gne, sr_ne _ _ (fun e => c8 e.symm), sr_ne _ _ (fun e => c9 e.symm)]
          exact hg hg' l hlt
      · rw [hz]; rfl
      · rw [hz]; exact hr5
      · by_cases e : k = b
        · subst e
          rw [sr_self]
          obtain ⟨j2, a2, f1, f2⟩ := ent2 j
          rw [f1]
          rcases f2 with f2 | ⟨f2, f3⟩
          · rw [f2]
            have i1 := hI.1 a j2
            have i2 := ivAll_ok a j2
            have i3 := civ j
            omega
          · rw [f2, f3]; exact hI.1 k j
        · rw [sr_ne _ _ e]; exact hI.1 k j
      · rw [sr_ne _ _ qne] at hlt
        rw [sr_ne _ _ qne, sr_ne _ _ nA, sr_ne _ _ nB]
        exact hI.2 l hlt
      · rw [sr_ne]
        · exact hF k j e1 e2
        · intro e; rw [e, c6] at e2; cases e2
    split at h
    · rename_i na nb pn pd ps hna hnb hpn hpd hps hti
      obtain ⟨⟨c1, c2, c3, c4, c5, c6, c7, c8, c9, c10⟩, h⟩ := if_ok h
      cases h
      refine core na nb pn pd ps hna hnb hpn hpd hps c1 c2 c3 c4 c5 c6 c7 c8 c9 c10 (fun j => ?_) rfl
      have e : iv b j = (lo32, hi32) := by unfold iv; rw [hti]
      rw [e]
      exact iv_wide a
    · rename_i na nb pn pd ps q hna hnb hpn hpd hps hti
      obtain ⟨⟨c1, c2, c3, c4, c5, c6, c7, c8, c9, c10, c11, c12⟩, h⟩ := if_ok h
      cases h
      refine core na nb pn pd ps hna hnb hpn hpd hps c1 c2 c3 c4 c5 c6 c7 c8 c9 c10 (fun j => ?_) rfl
      have e : iv b j = q.2 := by unfold iv; rw [hti]; dsimp only; rw [c11]; rfl
      rw [e]
      exact sub_ok c12
    · cases h
end GoSound
