/-! finds, judge: the same answers -/
theorem eq_finds {σ : St} {a b : Int32} (hJ : J3 σ) : CI 72 [.ref 0, .int a, .int b] σ (fun v1 σ1 => CI 178 [.ref 39, .int a, .int b] σ1 (fun v2 _ => v2 = v1)) := by
  obtain ⟨P, x, n, hx, hm, hu, hN, hi, hs, hb, hc, hB⟩ := hJ.b
  have h5 := hb.1
  have h4 := hx.1.2.2.2
  obtain ⟨f, hf, hq⟩ := hB.2.1
  have V := Vm1_of hN hs (fun (k j : Nat) (_ : 39 ≤ k) => (rfl : σ k j = σ k j))
  have no : ¬ (inR (P.1 3) a ∧ inR (P.1 2) b) → CI 178 [.ref 39, .int a, .int b] σ (fun v2 _ => v2 = -1000000001) := fun h => by
    refine w_178 (s_116 hm.2.2.2.1 h4 (ite10 (fun c1 => s_115 hm.2.2.1 h5 (ite10 (fun c2 => absurd ⟨c1, c2⟩ h) (fun _ => rfl))) (fun _ => rfl)))
  refine w_72 (s_87 hx.2.2.2.2.1 h4 (ite10 (fun c1 => s_86 hx.2.2.2.1 h5 (ite10 (fun c2 => ?_) (fun c2 => no (fun z => c2 z.2)))) (fun c1 => no (fun z => c1 z.1))))
  obtain ⟨i, hi, rfl, ei⟩ := inR_n c1
  obtain ⟨k, hk, rfl, ek⟩ := inR_n c2
  refine s_101 (f := f) hx hq hf.1 hi hk ?_
  refine w_178 (s_116 hm.2.2.2.1 h4 (ite10 (fun _ => s_115 hm.2.2.1 h5 (ite10 (fun _ => ?_) (fun z => absurd c2 z))) (fun z => absurd c1 z)))
  refine s_159 (f := f) hx.1 hm hf hi hk (fun j hj => by rw [V.s h5 hk]; exact hB.2.2.1.2.1 k hk j hj) ?_
  rw [V.s h5 hk, V.c.1, cls5 (by omega)]
  rfl
/-- judge -/
theorem s_3l {σ : St} {P : PS} {n : Nat} {K : Int32 → St → Prop} (hx : XP σ P) (hn : n ≤ 15) (e : σ 29 1 = Int32.ofNat n) (hB : ∀ j, j < n → inR (P.1 2) (σ 32 j)) : ∀ (d i : Nat) (o : Option Value), i + d = n → K (oI (fs (fun j => decide (¬ σ 21 (σ 32 j).toNatClampNeg = σ 33 j)) d i)) σ → PI 3 2 [some (.ref 29), some (.ref 21), some (.int (Int32.ofNat i)), o] [] σ K := by
  have h5 := hx.1.2.2.1
  have l0 : (0 : Int32).toInt = 0 := rfl
  have l5 : (5 : Int32).toInt = 5 := rfl
  intro d
  induction d with
  | zero =>
    intro i o hi hK
    refine w_3_2 ?_
    rw [e, if_pos (by rw [Int32.le_iff_toInt_le, ti_of (by omega), ti_of (by omega)]; omega)]
    exact hK
  | succ d ih =>
    intro i o hi hK
    have q := hB i (by omega)
    unfold inR at q
    have hK' : K (oI (bif decide (¬ σ 21 (σ 32 i).toNatClampNeg = σ 33 i) then some i else fs (fun j => decide (¬ σ 21 (σ 32 j).toNatClampNeg = σ 33 j)) d (i + 1))) σ := hK
    refine w_3_2 ?_
    rw [e, if_neg (by rw [Int32.le_iff_toInt_le, ti_of (by omega), ti_of (by omega)]; omega)]
    refine ⟨by rw [ti_of (by omega)]; omega, ?_⟩
    rw [tc_of (by omega), if_neg (by rw [Int32.lt_iff_toInt_lt, l0]; omega), if_neg (by rw [Int32.le_iff_toInt_le, l5]; omega)]
    refine ⟨by omega, ?_⟩
    by_cases c : σ 21 (σ 32 i).toNatClampNeg = σ 33 i
    · rw [if_pos c, of_s]
      rw [decide_eq_false (fun z => z c), cond_false] at hK'
      exact ih (i + 1) _ (by omega) hK'
    · rw [if_neg c]
      rw [decide_eq_true c, cond_true] at hK'
      exact hK'
theorem s_187l {σ : St} {P : PS} {n : Nat} {g : Nat → Bool} {K : Int32 → St → Prop} (h5 : P.1 2 ≤ 5) (hn : n ≤ 15) (e : σ 39 37 = Int32.ofNat n) (hB : ∀ j, j < n → inR (P.1 2) (σ 59 j)) (hg : ∀ j, j < n → g j = decide (¬ σ 46 (5 + (σ 59 j).toNatClampNeg) = σ 60 j)) : ∀ (d i : Nat), i + d = n → K (oI (fs g d i)) σ → PI 187 2 [some (.ref 39), some (.int (Int32.ofNat i))] [] σ K := by
  have l5 : (5 : Int32).toInt = 5 := rfl
  intro d
  induction d with
  | zero =>
    intro i hi hK
    refine w_187_2 ?_
    rw [e, if_pos (by rw [Int32.le_iff_toInt_le, ti_of (by omega), ti_of (by omega)]; omega)]
    exact hK
  | succ d ih =>
    intro i hi hK
    have q := hB i (by omega)
    unfold inR at q
    have e5 : (5 + σ 59 i).toInt = 5 + (σ 59 i).toInt := by rw [ti_add (by rw [l5]; omega) (by rw [l5]; omega), l5]
    have c5 : (5 + σ 59 i).toNatClampNeg = 5 + (σ 59 i).toNatClampNeg := by rw [tc_ti, tc_ti, e5]; omega
    have hK' : K (oI (bif g i then some i else fs g d (i + 1))) σ := hK
    rw [hg i (by omega)] at hK'
    refine w_187_2 ?_
    rw [e, if_neg (by rw [Int32.le_iff_toInt_le, ti_of (by omega), ti_of (by omega)]; omega)]
    refine ⟨by rw [ti_of (by omega)]; omega, ?_⟩
    rw [tc_of (by omega)]
    refine ⟨by rw [e5]; omega, ?_⟩
    rw [c5]
    by_cases c : σ 46 (5 + (σ 59 i).toNatClampNeg) = σ 60 i
    · rw [if_pos c, of_s]
      rw [decide_eq_false (fun z => z c), cond_false] at hK'
      exact ih (i + 1) (by omega) hK'
    · rw [if_neg c]
      rw [decide_eq_true c, cond_true] at hK'
      exact hK'
theorem eq_judge {σ : St} (hJ : J3 σ) : CI 80 [.ref 0] σ (fun v1 σ1 => CI 187 [.ref 39] σ1 (fun v2 _ => v2 = v1)) := by
  obtain ⟨P, x, n, hx, hm, hu, hN, hi, hs, hb, hc, hB⟩ := hJ.b
  have h5 := hb.1
  have V := Vm1_of hN hs (fun (k j : Nat) (_ : 39 ≤ k) => (rfl : σ k j = σ k j))
  have q : σ 29 1 = σ 39 37 := hJ.1.1.2.2.2.2.2.1
  have r : 0 ≤ (σ 29 1).toInt ∧ (σ 29 1).toInt ≤ 15 := hJ.1.1.1.1 29 1
  have ep : (σ 11 2).toNatClampNeg = P.1 2 := by rw [hx.2.2.2.1, tc_of (by omega)]
  have e1 : σ 29 1 = Int32.ofNat (σ 29 1).toNatClampNeg := (of_ti r.1).symm
  have n15 : (σ 29 1).toNatClampNeg ≤ 15 := by rw [tc_ti]; omega
  have bk : ∀ j, j < (σ 29 1).toNatClampNeg → σ 32 j = σ 59 j ∧ σ 33 j = σ 60 j ∧ inR (P.1 2) (σ 32 j) := fun j hj => by have := hJ.2.2.2 j hj; rw [ep] at this; exact this
  refine w_80 (w_3 (s_3l hx n15 e1 (fun j hj => (bk j hj).2.2) (σ 29 1).toNatClampNeg 0 none (by omega) ?_))
  refine w_187 (s_187l (P := P) h5 n15 (q.symm.trans e1) (fun j hj => by rw [← (bk j hj).1]; exact (bk j hj).2.2) (fun j hj => ?_) (σ 29 1).toNatClampNeg 0 (by omega) rfl)
  obtain ⟨k, hk, -, ek⟩ := inR_n (bk j hj).2.2
  rw [← (bk j hj).1, ← (bk j hj).2.1, ek, V.o h5 hk, cls10]
