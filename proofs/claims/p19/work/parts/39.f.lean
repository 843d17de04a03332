/-! the reference's maps; its clause -/
theorem sh_0 : ∀ v : Fin 64, ∀ L : Fin 13, (decide (¬ Int32.ofNat v.val &&& (((1 <<< (Int32.ofNat L.val &&& 31)) - 1) ^^^ (-1)) = 0) = decide (¬ (Int32.ofNat v.val <<< ((0 : Int32) &&& 31)) >>> (Int32.ofNat L.val &&& 31) = 0)) ∧ (decide (¬ (Int32.ofNat v.val <<< ((6 : Int32) &&& 31)) &&& (((1 <<< (Int32.ofNat L.val &&& 31)) - 1) ^^^ (-1)) = 0) = decide (¬ (Int32.ofNat v.val <<< ((6 : Int32) &&& 31)) >>> (Int32.ofNat L.val &&& 31) = 0)) ∧ 0 ||| (Int32.ofNat v.val <<< ((0 : Int32) &&& 31)) = Int32.ofNat v.val := by decide +kernel
theorem sh_1 {v : Int32} {L : Nat} (h : 0 ≤ v ∧ v ≤ 63) (hL : L ≤ 12) : (decide (¬ v &&& (((1 <<< (Int32.ofNat L &&& 31)) - 1) ^^^ (-1)) = 0) = decide (¬ (v <<< ((0 : Int32) &&& 31)) >>> (Int32.ofNat L &&& 31) = 0)) ∧ (decide (¬ (v <<< ((6 : Int32) &&& 31)) &&& (((1 <<< (Int32.ofNat L &&& 31)) - 1) ^^^ (-1)) = 0) = decide (¬ (v <<< ((6 : Int32) &&& 31)) >>> (Int32.ofNat L &&& 31) = 0)) ∧ 0 ||| (v <<< ((0 : Int32) &&& 31)) = v := by
  have hv := v_nat h (by decide)
  have l63 : (63 : Int32).toInt = 63 := rfl
  have := sh_0 ⟨v.toInt.toNat, by rw [l63] at hv; omega⟩ ⟨L, by omega⟩
  dsimp only at this
  rw [hv.1] at this
  exact this
def MQd (σ : St) (P : PS) : Prop := MR (s2 σ 39 25 (Int32.ofNat (P.1 2))) P ∧ σ 39 25 = Int32.ofNat (P.1 2 + 1)
theorem MQd.fr {σ σ' : St} {P : PS} (h : MQd σ P) (f : FrN σ σ') : MQd σ' P := by
  refine ⟨h.1.ex (fun j hj => ?_) (fun k j h1 h2 => ?_), (f 39 25 (fun _ => by omega)).trans h.2⟩
  · by_cases c : j = 25
    · rw [c, s2_self, s2_self]
    · rw [s2_ne _ _ (by omega), s2_ne _ _ (by omega)]; exact f 39 j (fun _ => by omega)
  · rw [s2_ne _ _ (by omega), s2_ne _ _ (by omega)]; exact f k j (fun e => by omega)
theorem MQd.row {σ : St} {P : PS} (h : MQd σ P) {k : Nat} {v : Int32} (h1 : 51 ≤ k) (h2 : k ≤ 52) : MQd (s2 σ k (P.1 2) v) P := by
  refine ⟨?_, (s2_ne _ _ (by omega)).trans h.2⟩
  obtain ⟨g0, g1, g2, g3, g4, g5, g6, g7, g8⟩ := h.1
  have e39 : ∀ j, (s2 (s2 σ k (P.1 2) v) 39 25 (Int32.ofNat (P.1 2))) 39 j = (s2 σ 39 25 (Int32.ofNat (P.1 2))) 39 j := fun j => by
    by_cases c : j = 25
    · rw [c, s2_self, s2_self]
    · rw [s2_ne _ _ (by omega), s2_ne _ _ (by omega), s2_ne _ _ (by omega)]
  have ek : ∀ k' j, 48 ≤ k' → k' ≤ 53 → ¬ (k' = k ∧ j = P.1 2) → (s2 (s2 σ k (P.1 2) v) 39 25 (Int32.ofNat (P.1 2))) k' j = (s2 σ 39 25 (Int32.ofNat (P.1 2))) k' j := fun k' j a1 a2 a3 => by
    rw [s2_ne _ _ (by omega), s2_ne _ _ a3, s2_ne _ _ (by omega)]
  refine ⟨g0, by rw [e39]; exact g1, by rw [e39]; exact g2, by rw [e39]; exact g3, by rw [e39]; exact g4, by rw [e39]; exact g5, fun j hj => ?_, fun j hj => ?_, fun j hj => ?_⟩
  · rw [ek 48 j (by omega) (by omega) (by omega), ek 49 j (by omega) (by omega) (by omega), ek 50 j (by omega) (by omega) (by omega)]; exact g6 j hj
  · rw [ek 51 j (by omega) (by omega) (by omega), ek 52 j (by omega) (by omega) (by omega)]; exact g7 j hj
  · rw [ek 53 j (by omega) (by omega) (by omega)]; exact g8 j hj
theorem s_126 {σ : St} {T : Nat → Int32} {q : Nat} {P : PS} {K : Int32 → St → Prop} (hX : MX σ T q) (hR : MR σ P) (hl : P.1 2 < 5) (ok : ∀ σ' q' P', cM T P q = ec T q' P' → FrQ σ σ' → MX σ' T q' → MR σ' P' → σ' 39 15 = σ 39 15 → K 0 σ') (no : ∀ σ' f p, ¬ f = 0 → f ≤ 4 → (cM T P q).1 = f → (cM T P q).2.1 = p → FrQ σ σ' → σ' 39 15 = Int32.ofNat p → K (Int32.ofNat f) σ') : CI 126 [.ref 39] σ K := by
  refine w_126 ?_
  have hL : P.1 1 ≤ 12 := hR.1.2.1
  rw [hR.2.2.2.1]
  unfold cM at ok no
  have f2 : ∀ {a b : Int32} {p : Nat}, (nm T a b p).1 ≤ 4 := fun {a b p} => Nat.le_trans nm_f (by omega)
  refine ⟨by rw [ti_of (by omega)]; omega, ?_⟩
  rw [tc_of (by omega), of_s]
  have X0 : MX (s2 (s2 σ 39 25 (Int32.ofNat (P.1 2 + 1))) 52 (P.1 2) 0) T q := hX.fr hX.2.1 hX.1 rfl (fun _ => rfl)
  have F0 : FrQ σ (s2 (s2 σ 39 25 (Int32.ofNat (P.1 2 + 1))) 52 (P.1 2) 0) := (FrQ.u (by omega) (by omega)).tr (FrQ.a (by omega) (by omega))
  have W0 : (s2 (s2 σ 39 25 (Int32.ofNat (P.1 2 + 1))) 52 (P.1 2) 0) 39 15 = σ 39 15 := rfl
  have M0 : MQd (s2 (s2 σ 39 25 (Int32.ofNat (P.1 2 + 1))) 52 (P.1 2) 0) P := by
    refine MQd.row ⟨hR.ex (fun j hj => ?_) (fun k j h1 h2 => ?_), s2_self _ _ _ _⟩ (by omega) (by omega)
    · by_cases c : j = 25
      · rw [c, s2_self]; exact hR.2.2.2.1.symm
      · rw [s2_ne _ _ (by omega), s2_ne _ _ (by omega)]
    · rw [s2_ne _ _ (by omega), s2_ne _ _ (by omega)]
  have Z0 : (s2 (s2 σ 39 25 (Int32.ofNat (P.1 2 + 1))) 52 (P.1 2) 0) 52 (P.1 2) = 0 := s2_self _ _ _ _
  generalize s2 (s2 σ 39 25 (Int32.ofNat (P.1 2 + 1))) 52 (P.1 2) 0 = τ0 at X0 F0 W0 M0 Z0 ⊢
  refine w_121_51 (s_120 X0 (fun c σ1 f1 x1 v1 p1 w1 => ⟨by rw [ti_of (by omega)]; omega, ?_⟩) (fun c σ1 f1 w1 => ⟨by rw [ti_of (by omega)]; omega, ?_⟩))
  · rw [if_pos c] at ok no
    rw [if_pos (by decide), tc_of (by omega)]
    unfold cM2 at ok no
    have M1 : MQd (s2 σ1 51 (P.1 2) (σ1 39 17)) P := (M0.fr f1).row (by omega) (by omega)
    have X1 : MX (s2 σ1 51 (P.1 2) (σ1 39 17)) T (nm T 0 4 q).2.2.2 := x1.fr x1.2.1 x1.1 rfl (fun _ => rfl)
    have F1 : FrQ σ (s2 σ1 51 (P.1 2) (σ1 39 17)) := (F0.tr f1.r).tr (FrQ.a (by omega) (by omega))
    have W1 : (s2 σ1 51 (P.1 2) (σ1 39 17)) 39 15 = σ 39 15 := w1.trans W0
    have A1 : (s2 σ1 51 (P.1 2) (σ1 39 17)) 51 (P.1 2) = (nm T 0 4 q).2.2.1 := (s2_self _ _ _ _).trans v1
    have Z1 : (s2 σ1 51 (P.1 2) (σ1 39 17)) 52 (P.1 2) = 0 := (f1 52 _ (fun e => by omega)).trans Z0
    generalize s2 σ1 51 (P.1 2) (σ1 39 17) = τ1 at M1 X1 F1 W1 A1 Z1 ⊢
    generalize (nm T 0 4 q).2.2.1 = k at A1 ok no
    generalize (nm T 0 4 q).2.2.2 = q2 at X1 ok no
    refine w_125 (s_120 X1 (fun c2 σ2 f2' x2 v2 p2 w2 => ?_) (fun c2 σ2 f2' w2 => ?_))
    · rw [if_pos c2] at ok no
      rw [if_pos (by decide)]
      have M2 := M1.fr f2'
      have e20 : σ2 39 20 = Int32.ofNat (P.1 1) := M2.1.2.2.1
      have bb := sh_1 (nm_v c2) hL
      rw [v2, e20]
      by_cases c3 : ((nm T 0 63 q2).2.2.1 <<< ((0 : Int32) &&& 31)) >>> (Int32.ofNat (P.1 1) &&& 31) = 0
      · have nb : ¬ bad P (nm T 0 63 q2).2.2.1 = true := fun z => by
          have z2 : decide (¬ (nm T 0 63 q2).2.2.1 &&& (((1 <<< (Int32.ofNat (P.1 1) &&& 31)) - 1) ^^^ (-1)) = 0) = true := z
          rw [bb.1] at z2
          exact of_decide_eq_true z2 c3
        rw [if_neg nb] at ok no
        unfold cM3 at ok no
        rw [if_pos c3]
        refine ⟨by rw [ti_of (by omega)]; omega, ?_⟩
        rw [if_pos (by decide), tc_of (by omega)]
        have z2 : σ2 52 (P.1 2) = 0 := (f2' 52 _ (fun e => by omega)).trans Z1
        rw [z2, bb.2.2]
        have M3 : MQd (s2 σ2 52 (P.1 2) (nm T 0 63 q2).2.2.1) P := M2.row (by omega) (by omega)
        have X3 : MX (s2 σ2 52 (P.1 2) (nm T 0 63 q2).2.2.1) T (nm T 0 63 q2).2.2.2 := x2.fr x2.2.1 x2.1 rfl (fun _ => rfl)
        have F3 : FrQ σ (s2 σ2 52 (P.1 2) (nm T 0 63 q2).2.2.1) := (F1.tr f2'.r).tr (FrQ.a (by omega) (by omega))
        have W3 : (s2 σ2 52 (P.1 2) (nm T 0 63 q2).2.2.1) 39 15 = σ 39 15 := w2.trans W1
        have A3 : (s2 σ2 52 (P.1 2) (nm T 0 63 q2).2.2.1) 51 (P.1 2) = k := (f2' 51 _ (fun e => by omega)).trans A1
        have Z3 : (s2 σ2 52 (P.1 2) (nm T 0 63 q2).2.2.1) 52 (P.1 2) = (nm T 0 63 q2).2.2.1 := s2_self _ _ _ _
        generalize s2 σ2 52 (P.1 2) (nm T 0 63 q2).2.2.1 = τ3 at M3 X3 F3 W3 A3 Z3 ⊢
        generalize (nm T 0 63 q2).2.2.1 = l at Z3 ok no
        generalize (nm T 0 63 q2).2.2.2 = q3 at X3 ok no
        refine w_125 (s_120 X3 (fun c5 σ4 f4 x4 v4 p4 w4 => ?_) (fun c5 σ4 f4 w4 => ?_))
        · rw [if_pos c5] at ok no
          rw [if_pos (by decide)]
          have M4 := M3.fr f4
          have e20 : σ4 39 20 = Int32.ofNat (P.1 1) := M4.1.2.2.1
          have bb := sh_1 (nm_v c5) hL
          rw [v4, e20]
          by_cases c6 : ((nm T 0 63 q3).2.2.1 <<< ((6 : Int32) &&& 31)) >>> (Int32.ofNat (P.1 1) &&& 31) = 0
          · have nb : ¬ bad P ((nm T 0 63 q3).2.2.1 <<< (6 &&& 31)) = true := fun z => by
              have z2 : decide (¬ ((nm T 0 63 q3).2.2.1 <<< ((6 : Int32) &&& 31)) &&& (((1 <<< (Int32.ofNat (P.1 1) &&& 31)) - 1) ^^^ (-1)) = 0) = true := z
              rw [bb.2.1] at z2
              exact of_decide_eq_true z2 c6
            rw [if_neg nb] at ok
            rw [if_pos c6]
            refine ⟨by rw [ti_of (by omega)]; omega, ?_⟩
            rw [tc_of (by omega), (f4 52 _ (fun e => by omega)).trans Z3]
            refine ok _ _ _ rfl ((F3.tr f4.r).tr (FrQ.a (by omega) (by omega))) (x4.fr x4.2.1 x4.1 rfl (fun _ => rfl)) ?_ (w4.trans W3)
            obtain ⟨⟨g0, g1, g2, g3, g4, g5, g6, g7, g8⟩, g9⟩ := M4
            refine ⟨⟨g0.1, g0.2.1, hl, g0.2.2.2⟩, g1, g2, g9, g4, g5, g6, fun j hj => ?_, g8⟩
            show σ4 51 j = (if j = P.1 2 then k else P.2.2 3 j) ∧ (if j = P.1 2 then (l ||| ((nm T 0 63 q3).2.2.1 <<< (6 &&& 31))) else σ4 52 j) = (if j = P.1 2 then (l ||| ((nm T 0 63 q3).2.2.1 <<< (6 &&& 31))) else P.2.2 4 j)
            by_cases cj : j = P.1 2
            · simp only [if_pos cj]
              rw [cj]
              exact ⟨(f4 51 _ (fun e => by omega)).trans A3, trivial⟩
            · simp only [if_neg cj]
              exact g7 j (by have : j < P.1 2 + 1 := hj; omega)
          · have nb : bad P ((nm T 0 63 q3).2.2.1 <<< (6 &&& 31)) = true := by
              show decide (¬ ((nm T 0 63 q3).2.2.1 <<< ((6 : Int32) &&& 31)) &&& (((1 <<< (Int32.ofNat (P.1 1) &&& 31)) - 1) ^^^ (-1)) = 0) = true
              rw [bb.2.1]
              exact decide_eq_true c6
            rw [if_pos nb] at no
            rw [if_neg c6, p4]
            exact w_119 (no _ 2 _ (by decide) (by decide) rfl rfl ((F3.tr f4.r).tr (FrQ.u (by omega) (by omega))) rfl)
        · rw [if_neg c5] at no
          rw [if_neg (f_pos f2 c5).1]
          exact no _ _ _ c5 f2 rfl rfl (F3.tr f4.r) w4
      · have nb : bad P (nm T 0 63 q2).2.2.1 = true := by
          show decide (¬ (nm T 0 63 q2).2.2.1 &&& (((1 <<< (Int32.ofNat (P.1 1) &&& 31)) - 1) ^^^ (-1)) = 0) = true
          rw [bb.1]
          exact decide_eq_true c3
        rw [if_pos nb] at no
        rw [if_neg c3, p2]
        refine w_119 ?_
        rw [if_neg (by decide)]
        exact no _ 2 _ (by decide) (by decide) rfl rfl ((F1.tr f2'.r).tr (FrQ.u (by omega) (by omega))) rfl
    · rw [if_neg c2] at no
      rw [if_neg (f_pos f2 c2).1, if_neg (f_pos f2 c2).1]
      exact no _ _ _ c2 f2 rfl rfl (F1.tr f2'.r) w2
  · rw [if_neg c] at no
    rw [if_neg (f_pos f2 c).1]
    exact no _ _ _ c f2 rfl rfl ((F0.tr f1.r).tr (FrQ.a (by omega) (by omega))) w1
/-- takeClause -/
def AM (σ σ' : St) (T : Nat → Int32) (v : Int32) (o : Out) : Prop := (o.1 = 0 ∧ v = 0 ∧ MX σ' T o.2.1 ∧ MR σ' o.2.2 ∧ σ' 39 15 = σ 39 15) ∨ (¬ o.1 = 0 ∧ o.1 ≤ 4 ∧ v = Int32.ofNat o.1 ∧ σ' 39 15 = Int32.ofNat o.2.1)
theorem s_129e {σ σ' : St} {T : Nat → Int32} {q' : Nat} {P' : PS} {o : Out} {K : Int32 → St → Prop} (he : o = ec T q' P') (hf : FrQ σ σ') (hX : MX σ' T q') (hR : MR σ' P') (hw : σ' 39 15 = σ 39 15) (hK : ∀ v τ, FrQ σ τ → AM σ τ T v o → K v τ) : CI 118 [.ref 39] σ' (fun v24 σ24 => (if v24 = 59 then K 0 (s2 σ24 39 16 ((σ24 39 16) + 1)) else CI 119 [.ref 39, .int 1, .int (σ24 39 16)] σ24 (fun v25 σ25 => K v25 σ25))) := by
  refine s_118c hX fun σ1 f1 h1 => ?_
  have w1 : σ1 39 15 = σ 39 15 := (f1 39 15 (by omega)).trans hw
  have m1 := hR.fr f1.n
  unfold ec at he
  by_cases c : T (sk T q') = 59
  · rw [if_pos c] at he ⊢
    have hq : sk T q' < 240 := Classical.not_not.mp fun z => by
      rw [h1.ht _ (by omega)] at c
      exact absurd c (by decide)
    refine hK _ _ ((hf.tr f1.n.r).tr (FrQ.u (by omega) (by omega))) (Or.inl ?_)
    rw [he]
    exact ⟨rfl, rfl, h1.inc hq, m1.fr (FrN.u (by omega) (by omega)), w1⟩
  · rw [if_neg c] at he ⊢
    rw [h1.1]
    refine w_119 (hK _ _ ((hf.tr f1.n.r).tr (FrQ.u (by omega) (by omega))) (Or.inr ?_))
    rw [he]
    exact ⟨Nat.one_ne_zero, (by decide : 1 ≤ 4), rfl, rfl⟩
theorem s_129n {σ σ' : St} {T : Nat → Int32} {o : Out} {f p : Nat} {K : Int32 → St → Prop} (h1 : ¬ f = 0) (h2 : f ≤ 4) (h3 : o.1 = f) (h4 : o.2.1 = p) (hf : FrQ σ σ') (hw : σ' 39 15 = Int32.ofNat p) (hK : ∀ v τ, FrQ σ τ → AM σ τ T v o → K v τ) : K (Int32.ofNat f) (s2 σ' 39 16 (σ' 39 16 + 1)) :=
  hK _ _ (hf.tr (FrQ.u (by omega) (by omega))) (Or.inr ⟨by rw [h3]; exact h1, by rw [h3]; exact h2, by rw [h3], by rw [h4]; exact hw⟩)
theorem s_129 {σ : St} {T : Nat → Int32} {q : Nat} {P : PS} {K : Int32 → St → Prop} (hX : MX σ T q) (hR : MR σ P) (hq : ¬ T q = -1) (hs : sk T q = q) (hK : ∀ v σ', FrQ σ σ' → AM σ σ' T v (cl T P q) → K v σ') : CI 129 [.ref 39] σ K := by
  refine w_129 (s_118c hX fun σ1 f1 h1 => ?_)
  rw [hs] at h1 ⊢
  have R1 := hR.fr f1.n
  have w1 : σ1 39 15 = σ 39 15 := f1 39 15 (by omega)
  have F1 := f1.n.r
  have q240 : q < 240 := Classical.not_not.mp fun z => hq (hX.ht q (by omega))
  obtain ⟨b0, b1, b2, b3⟩ := hR.1
  have l0 : (0 : Int32).toInt = 0 := rfl
  have X2 : MX (s2 σ1 39 16 (σ1 39 16 + 1)) T (q + 1) := h1.inc q240
  have R2 : MR (s2 σ1 39 16 (σ1 39 16 + 1)) P := R1.fr (FrN.u (by omega) (by omega))
  have F2 : FrQ σ (s2 σ1 39 16 (σ1 39 16 + 1)) := F1.tr (FrQ.u (by omega) (by omega))
  have w2 : (s2 σ1 39 16 (σ1 39 16 + 1)) 39 15 = σ 39 15 := w1
  have flt : ∀ f : Nat, wf P (T q) = f → ¬ f = 0 → K (Int32.ofNat f) (s2 σ1 39 15 (Int32.ofNat q)) := fun f e h => by
    refine hK _ _ (F1.tr (FrQ.u (by omega) (by omega))) (Or.inr ?_)
    unfold cl
    rw [if_neg (by rw [e]; exact h)]
    have := wf_le (P := P) (c := T q)
    exact ⟨by rw [e]; exact h, this, by rw [e], rfl⟩
  rw [h1.1]
  unfold cl at hK
  rw [R1.2.1, R1.2.2.2.1]
  by_cases d3 : T q = 110
  · rw [if_pos d3]
    refine w_128 ?_
    rw [if_pos rfl, R1.2.1]
    by_cases e0 : P.1 0 = 0
    · rw [if_pos (by rw [e0]; decide), if_pos rfl, h1.1] 
      have hw : wf P (T q) = 0 := by unfold wf; rw [d3, if_neg (by decide), if_neg (by decide), if_neg (by decide), if_pos rfl, if_pos e0]
      rw [if_pos hw, d3, if_neg (by decide), if_neg (by decide), if_pos rfl] at hK
      rw [h1.1] at X2 R2 F2 w2
      refine s_122 X2 R2 (fun σ3 q3 P3 e3 f3 x3 m3 w3 => ?_) (fun σ3 f p z1 z2 z3 z4 f3 w3 => ?_)
      · rw [if_pos rfl]
        exact s_129e e3 (F2.tr f3) x3 m3 (w3.trans w2) hK
      · rw [if_neg (f_pos z2 z1).2]
        exact s_129n z1 z2 z3 z4 (F2.tr f3) w3 hK
    · rw [if_neg (by rw [Int32.le_iff_toInt_le, ti_of (by omega), l0]; omega), if_neg (by decide), h1.1]
      exact w_119 (flt 3 (by unfold wf; rw [d3, if_neg (by decide), if_neg (by decide), if_neg (by decide), if_pos rfl, if_neg e0]) (by decide))
  · rw [if_neg d3]
    by_cases d1 : T q = 108
    · rw [if_pos d1]
      by_cases e0 : P.1 0 = 0
      · rw [if_pos ((of_z (by omega)).mpr e0)]
        exact w_119 (flt 1 (by unfold wf; rw [d1, if_neg (by decide), if_pos rfl, if_pos e0]) (by decide))
      · rw [if_neg (fun z => e0 ((of_z (by omega)).mp z))]
        by_cases e1 : P.1 2 = 0
        · rw [if_pos (by rw [e1]; decide)]
          refine w_128 ?_
          rw [if_neg (by decide), if_pos rfl, R1.2.2.1]
          by_cases e2 : P.1 1 < 12
          · rw [if_neg (fun z => by have := of_inj (n := P.1 1) (m := 12) (by omega) (by omega) z; omega), if_pos rfl]
            have hw : wf P (T q) = 0 := by unfold wf; rw [d1, if_neg (by decide), if_pos rfl, if_neg e0, if_pos e1, if_pos e2]
            rw [if_pos hw, if_pos d1] at hK
            refine s_124 X2 R2 e2 (fun σ3 q3 P3 e3 f3 x3 m3 w3 => ?_) (fun σ3 f p z1 z2 z3 z4 f3 w3 => ?_)
            · rw [if_pos rfl]
              exact s_129e e3 (F2.tr f3) x3 m3 (w3.trans w2) hK
            · rw [if_neg (f_pos z2 z1).2]
              exact s_129n z1 z2 z3 z4 (F2.tr f3) w3 hK
          · have e12 : P.1 1 = 12 := by omega
            rw [if_pos (by rw [e12]; rfl), if_neg (by decide), h1.1]
            exact w_119 (flt 3 (by unfold wf; rw [d1, if_neg (by decide), if_pos rfl, if_neg e0, if_pos e1, if_neg e2]) (by decide))
        · rw [if_neg (by rw [Int32.le_iff_toInt_le, ti_of (by omega), l0]; omega)]
          exact w_119 (flt 1 (by unfold wf; rw [d1, if_neg (by decide), if_pos rfl, if_neg e0, if_neg e1]) (by decide))
    · rw [if_neg d1]
      by_cases d2 : T q = 109
      · rw [if_pos d2]
        by_cases e0 : P.1 0 = 0
        · rw [if_pos ((of_z (by omega)).mpr e0)]
          exact w_119 (flt 1 (by unfold wf; rw [d2, if_neg (by decide), if_neg (by decide), if_pos rfl, if_pos e0]) (by decide))
        · rw [if_neg (fun z => e0 ((of_z (by omega)).mp z))]
          refine w_128 ?_
          rw [if_neg (by decide), if_neg (by decide), if_pos rfl, R1.2.2.2.1]
          by_cases e2 : P.1 2 < 5
          · rw [if_neg (fun z => by have := of_inj (n := P.1 2) (m := 5) (by omega) (by omega) z; omega), if_pos rfl]
            have hw : wf P (T q) = 0 := by unfold wf; rw [d2, if_neg (by decide), if_neg (by decide), if_pos rfl, if_neg e0, if_pos e2]
            rw [if_pos hw, if_neg d1, if_pos d2] at hK
            refine s_126 X2 R2 e2 (fun σ3 q3 P3 e3 f3 x3 m3 w3 => ?_) (fun σ3 f p z1 z2 z3 z4 f3 w3 => ?_)
            · rw [if_pos rfl]
              exact s_129e e3 (F2.tr f3) x3 m3 (w3.trans w2) hK
            · rw [if_neg (f_pos z2 z1).2]
              exact s_129n z1 z2 z3 z4 (F2.tr f3) w3 hK
          · have e12 : P.1 2 = 5 := by omega
            rw [if_pos (by rw [e12]; rfl), if_neg (by decide), h1.1]
            exact w_119 (flt 3 (by unfold wf; rw [d2, if_neg (by decide), if_neg (by decide), if_pos rfl, if_neg e0, if_neg e2]) (by decide))
      · rw [if_neg d2]
        by_cases d0 : T q = 105
        · rw [if_pos d0]
          by_cases e0 : P.1 0 = 0
          · rw [if_pos ((of_z (by omega)).mpr e0)]
            exact w_119 (flt 1 (by unfold wf; rw [if_pos d0, if_pos e0]) (by decide))
          · rw [if_neg (fun z => e0 ((of_z (by omega)).mp z))]
            refine w_128 ?_
            rw [if_neg (by decide), if_neg (by decide), if_neg (by decide), R1.2.2.2.2.1]
            by_cases e2 : P.1 3 < 4
            · rw [if_neg (fun z => by have := of_inj (n := P.1 3) (m := 4) (by omega) (by omega) z; omega), if_pos rfl]
              have hw : wf P (T q) = 0 := by unfold wf; rw [if_pos d0, if_neg e0, if_pos e2]
              rw [if_pos hw, if_neg d1, if_neg d2, if_neg d3] at hK
              refine s_127 X2 R2 e2 (fun σ3 q3 P3 e3 f3 x3 m3 w3 => ?_) (fun σ3 f p z1 z2 z3 z4 f3 w3 => ?_)
              · rw [if_pos rfl]
                exact s_129e e3 (F2.tr f3) x3 m3 (w3.trans w2) hK
              · rw [if_neg (f_pos z2 z1).2]
                exact s_129n z1 z2 z3 z4 (F2.tr f3) w3 hK
            · have e12 : P.1 3 = 4 := by omega
              rw [if_pos (by rw [e12]; rfl), if_neg (by decide), h1.1]
              exact w_119 (flt 3 (by unfold wf; rw [if_pos d0, if_neg e0, if_neg e2]) (by decide))
        · rw [if_neg d0]
          exact w_119 (flt 1 (by unfold wf; rw [if_neg d0, if_neg d1, if_neg d2, if_neg d3]) (by decide))
