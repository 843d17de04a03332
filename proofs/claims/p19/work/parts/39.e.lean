/-! the reference's clauses -/
theorem MR.rowL {σ : St} {P : PS} (h : MR σ P) {k : Nat} {v : Int32} (h1 : 48 ≤ k) (h2 : k ≤ 50) : MR (s2 σ k (P.1 1) v) P := by
  obtain ⟨g0, g1, g2, g3, g4, g5, g6, g7, g8⟩ := h
  have e39 : ∀ j, s2 σ k (P.1 1) v 39 j = σ 39 j := fun j => s2_ne _ _ (by omega)
  refine ⟨g0, by rw [e39]; exact g1, by rw [e39]; exact g2, by rw [e39]; exact g3, by rw [e39]; exact g4, by rw [e39]; exact g5, fun j hj => ?_, fun j hj => ?_, fun j hj => ?_⟩
  · rw [s2_ne _ _ (by omega), s2_ne _ _ (by omega), s2_ne _ _ (by omega)]; exact g6 j hj
  · rw [s2_ne _ _ (by omega), s2_ne _ _ (by omega)]; exact g7 j hj
  · rw [s2_ne _ _ (by omega)]; exact g8 j hj
/-- takeLine -/
theorem s_124 {σ : St} {T : Nat → Int32} {q : Nat} {P : PS} {K : Int32 → St → Prop} (hX : MX σ T q) (hR : MR σ P) (hl : P.1 1 < 12) (ok : ∀ σ' q' P', cL T P q = ec T q' P' → FrQ σ σ' → MX σ' T q' → MR σ' P' → σ' 39 15 = σ 39 15 → K 0 σ') (no : ∀ σ' f p, ¬ f = 0 → f ≤ 4 → (cL T P q).1 = f → (cL T P q).2.1 = p → FrQ σ σ' → σ' 39 15 = Int32.ofNat p → K (Int32.ofNat f) σ') : CI 124 [.ref 39] σ K := by
  refine w_124 ?_
  rw [hR.2.1, hR.2.2.1]
  unfold cL at ok no
  have f2 : ∀ {a b : Int32} {p : Nat}, (nm T a b p).1 ≤ 4 := fun {a b p} => Nat.le_trans nm_f (by omega)
  refine w_121_48 (s_120 hX (fun c σ1 f1 x1 v1 p1 w1 => ⟨by rw [ti_of (by omega)]; omega, ?_⟩) (fun c σ1 f1 w1 => ⟨by rw [ti_of (by omega)]; omega, ?_⟩))
  · rw [if_pos c] at ok no
    rw [if_pos (by decide), tc_of (by omega)]
    unfold cL2 at ok no
    have M1 : MR (s2 σ1 48 (P.1 1) (σ1 39 17)) P := (hR.fr f1).rowL (by omega) (by omega)
    have X1 : MX (s2 σ1 48 (P.1 1) (σ1 39 17)) T (nm T 0 (Int32.ofNat (P.1 0) - 1) q).2.2.2 := x1.fr x1.2.1 x1.1 rfl (fun _ => rfl)
    have F1 : FrQ σ (s2 σ1 48 (P.1 1) (σ1 39 17)) := f1.r.tr (FrQ.a (by omega) (by omega))
    have W1 : (s2 σ1 48 (P.1 1) (σ1 39 17)) 39 15 = σ 39 15 := w1
    have A1 : (s2 σ1 48 (P.1 1) (σ1 39 17)) 48 (P.1 1) = (nm T 0 (Int32.ofNat (P.1 0) - 1) q).2.2.1 := (s2_self _ _ _ _).trans v1
    generalize s2 σ1 48 (P.1 1) (σ1 39 17) = τ1 at M1 X1 F1 W1 A1 ⊢
    rw [M1.2.1]
    generalize (nm T 0 (Int32.ofNat (P.1 0) - 1) q).2.2.1 = a at A1 ok no
    generalize (nm T 0 (Int32.ofNat (P.1 0) - 1) q).2.2.2 = q2 at X1 ok no
    refine w_121_49 (s_120 X1 (fun c2 σ2 f2' x2 v2 p2 w2 => ⟨by rw [ti_of (by omega)]; omega, ?_⟩) (fun c2 σ2 f2' w2 => ⟨by rw [ti_of (by omega)]; omega, ?_⟩))
    · rw [if_pos c2] at ok no
      rw [if_pos rfl, tc_of (by omega)]
      have M2 : MR (s2 σ2 49 (P.1 1) (σ2 39 17)) P := (M1.fr f2').rowL (by omega) (by omega)
      have X2 : MX (s2 σ2 49 (P.1 1) (σ2 39 17)) T (nm T 0 (Int32.ofNat (P.1 0) - 1) q2).2.2.2 := x2.fr x2.2.1 x2.1 rfl (fun _ => rfl)
      have F2 : FrQ σ (s2 σ2 49 (P.1 1) (σ2 39 17)) := (F1.tr f2'.r).tr (FrQ.a (by omega) (by omega))
      have W2 : (s2 σ2 49 (P.1 1) (σ2 39 17)) 39 15 = σ 39 15 := w2.trans W1
      have A2 : (s2 σ2 49 (P.1 1) (σ2 39 17)) 48 (P.1 1) = a := (f2' 48 _ (fun e => by omega)).trans A1
      have B2 : (s2 σ2 49 (P.1 1) (σ2 39 17)) 49 (P.1 1) = (nm T 0 (Int32.ofNat (P.1 0) - 1) q2).2.2.1 := (s2_self _ _ _ _).trans v2
      have N2 : (s2 σ2 49 (P.1 1) (σ2 39 17)) 39 18 = Int32.ofNat (nm T 0 (Int32.ofNat (P.1 0) - 1) q2).2.1 := p2
      generalize s2 σ2 49 (P.1 1) (σ2 39 17) = τ2 at M2 X2 F2 W2 A2 B2 N2 ⊢
      generalize (nm T 0 (Int32.ofNat (P.1 0) - 1) q2).2.2.1 = b at B2 ok no
      generalize (nm T 0 (Int32.ofNat (P.1 0) - 1) q2).2.2.2 = q3 at X2 ok no
      generalize (nm T 0 (Int32.ofNat (P.1 0) - 1) q2).2.1 = n2 at N2 ok no
      refine ⟨by rw [ti_of (by omega)]; omega, ?_⟩
      rw [A2, B2]
      have bad4 : a = b ∨ jn P.2.2 a b (P.1 1) = true → K 4 (s2 τ2 39 15 (τ2 39 18)) := fun z => by
        rw [if_pos z] at no
        exact no _ 4 _ (by decide) (by decide) rfl rfl (F2.tr (FrQ.u (by omega) (by omega))) N2
      by_cases c3 : a = b
      · rw [if_pos c3]
        exact w_119 (bad4 (Or.inl c3))
      · rw [if_neg c3]
        refine s_123 (L := P.1 1) (by omega) M2.2.2.1 (fun j hj => ⟨(M2.2.2.2.2.2.2.1 j hj).1, (M2.2.2.2.2.2.2.1 j hj).2.1⟩) ?_
        cases c4 : jn P.2.2 a b (P.1 1) with
        | true =>
          rw [cond_true, if_neg (by decide)]
          exact w_119 (bad4 (Or.inr c4))
        | false =>
          rw [cond_false, if_pos rfl, if_pos (by decide)]
          rw [if_neg (fun z => z.elim c3 (fun z => by rw [c4] at z; cases z))] at ok no
          unfold cL3 at ok no
          refine s_120 X2 (fun c5 σ3 f3 x3 v3 p3 w3 => ?_) (fun c5 σ3 f3 w3 => ?_)
          · rw [if_pos c5] at ok no
            unfold cL4 at ok no
            rw [if_pos (by decide)]
            have M3 := M2.fr f3
            have X3 : MX (s2 (s2 σ3 39 24 ((σ3 39 24) ||| ((σ3 39 17) <<< (Int32.ofNat (P.1 1) &&& 31)))) 39 20 ((σ3 39 20) + 1)) T (nm T 0 1 q3).2.2.2 := x3.fr x3.2.1 x3.1 rfl (fun _ => rfl)
            have F3 : FrQ σ (s2 (s2 σ3 39 24 ((σ3 39 24) ||| ((σ3 39 17) <<< (Int32.ofNat (P.1 1) &&& 31)))) 39 20 ((σ3 39 20) + 1)) := ((F2.tr f3.r).tr (FrQ.u (by omega) (by omega))).tr (FrQ.u (by omega) (by omega))
            have W3 : (s2 (s2 σ3 39 24 ((σ3 39 24) ||| ((σ3 39 17) <<< (Int32.ofNat (P.1 1) &&& 31)))) 39 20 ((σ3 39 20) + 1)) 39 15 = σ 39 15 := w3.trans W2
            have E24 : (s2 (s2 σ3 39 24 ((σ3 39 24) ||| ((σ3 39 17) <<< (Int32.ofNat (P.1 1) &&& 31)))) 39 20 ((σ3 39 20) + 1)) 39 24 = P.2.1 ||| ((nm T 0 1 q3).2.2.1 <<< (Int32.ofNat (P.1 1) &&& 31)) := by rw [← v3, ← M3.2.2.2.2.2.1]; rfl
            have E20 : (s2 (s2 σ3 39 24 ((σ3 39 24) ||| ((σ3 39 17) <<< (Int32.ofNat (P.1 1) &&& 31)))) 39 20 ((σ3 39 20) + 1)) 39 20 = Int32.ofNat (P.1 1 + 1) := by rw [← of_s, ← M3.2.2.1]; rfl
            have E39 : ∀ j, ¬ j = 24 → ¬ j = 20 → (s2 (s2 σ3 39 24 ((σ3 39 24) ||| ((σ3 39 17) <<< (Int32.ofNat (P.1 1) &&& 31)))) 39 20 ((σ3 39 20) + 1)) 39 j = σ3 39 j := fun j h1 h2 => by rw [s2_ne _ _ (by omega), s2_ne _ _ (by omega)]
            have EK : ∀ k j, ¬ k = 39 → (s2 (s2 σ3 39 24 ((σ3 39 24) ||| ((σ3 39 17) <<< (Int32.ofNat (P.1 1) &&& 31)))) 39 20 ((σ3 39 20) + 1)) k j = σ3 k j := fun k j h1 => by rw [s2_ne _ _ (by omega), s2_ne _ _ (by omega)]
            generalize s2 (s2 σ3 39 24 ((σ3 39 24) ||| ((σ3 39 17) <<< (Int32.ofNat (P.1 1) &&& 31)))) 39 20 ((σ3 39 20) + 1) = τ3 at X3 F3 W3 E24 E20 E39 EK ⊢
            generalize (nm T 0 1 q3).2.2.1 = t at E24 ok no
            generalize (nm T 0 1 q3).2.2.2 = q4 at X3 ok no
            refine w_121_50 (s_120 X3 (fun c6 σ4 f4 x4 v4 p4 w4 => ⟨by rw [ti_of (by omega)]; omega, ?_⟩) (fun c6 σ4 f4 w4 => ⟨by rw [ti_of (by omega)]; omega, ?_⟩))
            · rw [if_pos c6] at ok
              rw [tc_of (by omega)]
              have g39 : ∀ j, 19 ≤ j → σ4 39 j = τ3 39 j := fun j hj => f4 39 j (fun _ => by omega)
              have gk : ∀ k j, 48 ≤ k → k ≤ 53 → σ4 k j = τ2 k j := fun k j h1 h2 => (f4 k j (fun e => by omega)).trans ((EK k j (by omega)).trans (f3 k j (fun e => by omega)))
              have m39 : ∀ j, 19 ≤ j → ¬ j = 24 → ¬ j = 20 → σ4 39 j = τ2 39 j := fun j h1 h2 h3 => (g39 j h1).trans ((E39 j h2 h3).trans (f3 39 j (fun _ => by omega)))
              refine ok _ _ _ rfl ((F3.tr f4.r).tr (FrQ.a (by omega) (by omega))) (x4.fr x4.2.1 x4.1 rfl (fun _ => rfl)) ?_ (w4.trans W3)
              obtain ⟨g0, g1, g2, g3, g4, g5, g6, g7, g8⟩ := M2
              refine ⟨⟨g0.1, hl, g0.2.2.1, g0.2.2.2⟩, (m39 19 (by omega) (by omega) (by omega)).trans g1, (g39 20 (by omega)).trans E20, (m39 25 (by omega) (by omega) (by omega)).trans g3, (m39 28 (by omega) (by omega) (by omega)).trans g4, (g39 24 (by omega)).trans E24, fun j hj => ?_, fun j hj => ?_, fun j hj => ?_⟩
              · show σ4 48 j = (if j = P.1 1 then a else P.2.2 0 j) ∧ σ4 49 j = (if j = P.1 1 then b else P.2.2 1 j) ∧ (if j = P.1 1 then σ4 39 17 else σ4 50 j) = (if j = P.1 1 then (nm T 0 50 q4).2.2.1 else P.2.2 2 j)
                rw [gk 48 j (by omega) (by omega), gk 49 j (by omega) (by omega), gk 50 j (by omega) (by omega)]
                by_cases cj : j = P.1 1
                · simp only [if_pos cj]
                  rw [cj]
                  exact ⟨A2, B2, v4⟩
                · simp only [if_neg cj]
                  exact g6 j (by have : j < P.1 1 + 1 := hj; omega)
              · show σ4 51 j = _ ∧ σ4 52 j = _
                rw [gk 51 j (by omega) (by omega), gk 52 j (by omega) (by omega)]; exact g7 j hj
              · show σ4 53 j = _
                rw [gk 53 j (by omega) (by omega)]; exact g8 j hj
            · rw [if_neg c6] at no
              exact no _ _ _ c6 f2 rfl rfl ((F3.tr f4.r).tr (FrQ.a (by omega) (by omega))) w4
          · rw [if_neg c5] at no
            rw [if_neg (f_pos f2 c5).1]
            exact no _ _ _ c5 f2 rfl rfl (((F2.tr f3.r).tr (FrQ.u (by omega) (by omega))).tr (FrQ.u (by omega) (by omega))) w3
    · rw [if_neg c2] at no
      rw [if_neg (f_pos f2 c2).2, if_neg (f_pos f2 c2).1]
      exact no _ _ _ c2 f2 rfl rfl ((((F1.tr f2'.r).tr (FrQ.a (by omega) (by omega))).tr (FrQ.u (by omega) (by omega))).tr (FrQ.u (by omega) (by omega))) w2
  · rw [if_neg c] at no
    rw [if_neg (f_pos f2 c).1, if_neg (f_pos f2 c).2]
    exact no _ _ _ c f2 rfl rfl (((f1.r.tr (FrQ.a (by omega) (by omega))).tr (FrQ.u (by omega) (by omega))).tr (FrQ.u (by omega) (by omega))) w1
