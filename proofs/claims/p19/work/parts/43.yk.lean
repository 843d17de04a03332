/-! what a survey without a fault tells: duties from 0 on; no bits of lines that there are not -/
def PZ (P : PS) : Prop := P.1 1 ≤ 12 ∧ (∀ l, l < P.1 1 → 0 ≤ (P.2.2 2 l).toInt ∧ (P.2.2 2 l).toInt ≤ 50) ∧ (∀ i, P.1 1 ≤ i → bt P.2.1 i = false) ∧ ∀ m, m < P.1 2 → ∀ i, P.1 1 ≤ i → bt (P.2.2 4 m) i = false
theorem b_msk0 : ∀ L : Fin 13, ∀ i : Fin 32, bt ((1 <<< (Int32.ofNat L.val &&& 31)) - 1) i.val = decide (i.val < L.val) := by decide +kernel
theorem b_msk {L : Nat} (hL : L ≤ 12) (i : Nat) : bt ((1 <<< (Int32.ofNat L &&& 31)) - 1) i = decide (i < L) := by
  by_cases hi : i < 32
  · exact b_msk0 ⟨L, by omega⟩ ⟨i, hi⟩
  · rw [b_big (by omega), decide_eq_false (by omega)]
theorem PZ_P0 : PZ P0 := ⟨Nat.zero_le _, fun l hl => absurd hl (Nat.not_lt_zero l), fun i _ => b_0 i, fun m hm => absurd hm (Nat.not_lt_zero m)⟩
theorem PZ_N {P : PS} {v : Int32} (h : PZ P) : PZ (pN P v) := h
theorem PZ_J {P : PS} {c : Int32} (h : PZ P) : PZ (pJ P c) := h
theorem PZ_L {P : PS} {a b t w : Int32} (h : PZ P) (hl : P.1 1 < 12) (ht : 0 ≤ t ∧ t ≤ 1) (hw : 0 ≤ w ∧ w ≤ 50) : PZ (pL P a b t w) := by
  have l0 : (0 : Int32).toInt = 0 := rfl
  have l1 : (1 : Int32).toInt = 1 := rfl
  have l50 : (50 : Int32).toInt = 50 := rfl
  have h0 : 0 ≤ w.toInt ∧ w.toInt ≤ 50 := by rw [Int32.le_iff_toInt_le, Int32.le_iff_toInt_le, l0, l50] at hw; exact hw
  have t01 : t = 0 ∨ t = 1 := by
    rw [Int32.le_iff_toInt_le, Int32.le_iff_toInt_le, l0, l1] at ht
    have c : t.toInt = 0 ∨ t.toInt = 1 := by omega
    rcases c with c | c
    · exact Or.inl (ti_inj (c.trans l0.symm))
    · exact Or.inr (ti_inj (c.trans l1.symm))
  refine ⟨hl, fun l hl2 => ?_, fun i hi => ?_, fun m hm i hi => ?_⟩
  · show 0 ≤ (if l = P.1 1 then w else P.2.2 2 l).toInt ∧ (if l = P.1 1 then w else P.2.2 2 l).toInt ≤ 50
    have hl3 : l < P.1 1 + 1 := hl2
    split
    · exact h0
    · exact h.2.1 l (by omega)
  · have hi2 : P.1 1 + 1 ≤ i := hi
    show bt (P.2.1 ||| (t <<< (Int32.ofNat (P.1 1) &&& 31))) i = false
    rw [b_or, h.2.2.1 i (by omega), Bool.false_or]
    rcases t01 with rfl | rfl
    · by_cases c : i < 32
      · have := b_shl (P.1 1) (by omega) 0 c
        rw [b_0, Bool.and_false] at this
        exact this
      · exact b_big (by omega)
    · rw [b_one (by omega), decide_eq_false (by omega)]
  · have hi2 : P.1 1 + 1 ≤ i := hi
    exact h.2.2.2 m hm i (by omega)
theorem bad_b {P : PS} (hL : P.1 1 ≤ 12) {s : Int32} (h : ¬ bad P s = true) (i : Nat) (hi : P.1 1 ≤ i) : bt s i = false := by
  have h1 : s &&& (((1 <<< (Int32.ofNat (P.1 1) &&& 31)) - 1) ^^^ (-1)) = 0 := by
    cases hb : bad P s with
    | true => exact absurd hb h
    | false => exact Classical.not_not.mp (of_decide_eq_false hb)
  by_cases c : i < 32
  · have := congrArg (fun x => bt x i) h1
    rw [b_and, b_xor, b_msk hL, b_m1 i c, b_0, decide_eq_false (by omega)] at this
    cases hs : bt s i
    · rfl
    · rw [hs] at this; cases this
  · exact b_big (by omega)
theorem PZ_M {P : PS} {k s : Int32} (h : PZ P) (hs : ∀ i, P.1 1 ≤ i → bt s i = false) : PZ (pM P k s) := by
  refine ⟨h.1, h.2.1, h.2.2.1, fun m hm i hi => ?_⟩
  show bt (if m = P.1 2 then s else P.2.2 4 m) i = false
  have hm2 : m < P.1 2 + 1 := hm
  split
  · exact hs i hi
  · exact h.2.2.2 m (by omega) i hi
theorem ec_z {T : Nat → Int32} {q : Nat} {P : PS} (h : PZ P) : PZ (ec T q P).2.2 := by
  unfold ec
  split
  · exact h
  · exact h
theorem cN_z {T : Nat → Int32} {P : PS} {q : Nat} (h : PZ P) (z : (cN T P q).1 = 0) : PZ (cN T P q).2.2 := by
  unfold cN at z ⊢
  by_cases c : (nm T 2 8 q).1 = 0
  · rw [if_pos c]; exact ec_z (PZ_N h)
  · rw [if_neg c] at z; exact absurd z c
theorem cJ_z {T : Nat → Int32} {P : PS} {q : Nat} (h : PZ P) (z : (cJ T P q).1 = 0) : PZ (cJ T P q).2.2 := by
  unfold cJ at z ⊢
  by_cases c : (nm T 1 12 q).1 = 0
  · rw [if_pos c]; exact ec_z (PZ_J h)
  · rw [if_neg c] at z; exact absurd z c
theorem cL_z {T : Nat → Int32} {P : PS} {q : Nat} (h : PZ P) (hl : P.1 1 < 12) (z : (cL T P q).1 = 0) : PZ (cL T P q).2.2 := by
  unfold cL at z ⊢
  by_cases c : (nm T 0 (Int32.ofNat (P.1 0) - 1) q).1 = 0
  · rw [if_pos c] at z ⊢
    revert z
    generalize (nm T 0 (Int32.ofNat (P.1 0) - 1) q).2.2.1 = a
    generalize (nm T 0 (Int32.ofNat (P.1 0) - 1) q).2.2.2 = q2
    intro z
    unfold cL2 at z ⊢
    by_cases c2 : (nm T 0 (Int32.ofNat (P.1 0) - 1) q2).1 = 0
    · rw [if_pos c2] at z ⊢
      revert z
      generalize (nm T 0 (Int32.ofNat (P.1 0) - 1) q2).2.2.1 = b
      generalize (nm T 0 (Int32.ofNat (P.1 0) - 1) q2).2.2.2 = q3
      intro z
      by_cases c3 : a = b ∨ jn P.2.2 a b (P.1 1) = true
      · rw [if_pos c3] at z; exact absurd z (by decide : ¬ (4 : Nat) = 0)
      · rw [if_neg c3] at z ⊢
        unfold cL3 at z ⊢
        by_cases c4 : (nm T 0 1 q3).1 = 0
        · rw [if_pos c4] at z ⊢
          have v4 := nm_v c4
          revert z v4
          generalize (nm T 0 1 q3).2.2.1 = t
          generalize (nm T 0 1 q3).2.2.2 = q4
          intro z v4
          unfold cL4 at z ⊢
          by_cases c5 : (nm T 0 50 q4).1 = 0
          · rw [if_pos c5]; exact ec_z (PZ_L h hl v4 (nm_v c5))
          · rw [if_neg c5] at z; exact absurd z c5
        · rw [if_neg c4] at z; exact absurd z c4
    · rw [if_neg c2] at z; exact absurd z c2
  · rw [if_neg c] at z; exact absurd z c
theorem cM_z {T : Nat → Int32} {P : PS} {q : Nat} (h : PZ P) (z : (cM T P q).1 = 0) : PZ (cM T P q).2.2 := by
  unfold cM at z ⊢
  by_cases c : (nm T 0 4 q).1 = 0
  · rw [if_pos c] at z ⊢
    revert z
    generalize (nm T 0 4 q).2.2.1 = k
    generalize (nm T 0 4 q).2.2.2 = q2
    intro z
    unfold cM2 at z ⊢
    by_cases c2 : (nm T 0 63 q2).1 = 0
    · rw [if_pos c2] at z ⊢
      revert z
      generalize (nm T 0 63 q2).2.2.1 = lo
      generalize (nm T 0 63 q2).2.2.2 = q3
      intro z
      by_cases c3 : bad P lo = true
      · rw [if_pos c3] at z; exact absurd z (by decide : ¬ (2 : Nat) = 0)
      · rw [if_neg c3] at z ⊢
        unfold cM3 at z ⊢
        by_cases c4 : (nm T 0 63 q3).1 = 0
        · rw [if_pos c4] at z ⊢
          revert z
          generalize (nm T 0 63 q3).2.2.1 = hi
          intro z
          by_cases c5 : bad P (hi <<< (6 &&& 31)) = true
          · rw [if_pos c5] at z; exact absurd z (by decide : ¬ (2 : Nat) = 0)
          · rw [if_neg c5]
            exact ec_z (PZ_M h fun i hi => by rw [b_or, bad_b h.1 c3 i hi, bad_b h.1 c5 i hi]; rfl)
        · rw [if_neg c4] at z; exact absurd z c4
    · rw [if_neg c2] at z; exact absurd z c2
  · rw [if_neg c] at z; exact absurd z c
theorem cl_z {T : Nat → Int32} {P : PS} {q : Nat} (h : PZ P) (z : (cl T P q).1 = 0) : PZ (cl T P q).2.2 := by
  unfold cl at z ⊢
  by_cases c : wf P (T q) = 0
  · rw [if_pos c] at z ⊢
    by_cases c1 : T q = 108
    · rw [if_pos c1] at z ⊢
      refine cL_z h ?_ z
      rw [c1] at c
      unfold wf at c
      rw [if_neg (by decide), if_pos rfl] at c
      split at c
      · cases c
      · split at c
        · split at c
          · assumption
          · cases c
        · cases c
    · rw [if_neg c1] at z ⊢
      by_cases c2 : T q = 109
      · rw [if_pos c2] at z ⊢; exact cM_z h z
      · rw [if_neg c2] at z ⊢
        by_cases c3 : T q = 110
        · rw [if_pos c3] at z ⊢; exact cN_z h z
        · rw [if_neg c3] at z ⊢; exact cJ_z h z
  · rw [if_neg c] at z; exact absurd z c
theorem su_z {T : Nat → Int32} : ∀ (d : Nat) {P : PS} {q : Nat}, PZ P → (su T d P q).1 = 0 → PZ (su T d P q).2.2 := by
  intro d
  induction d with
  | zero => intro P q h _; exact h
  | succ d ih =>
    intro P q h z
    have e : su T (d + 1) P q = if T (sk T q) = -1 then (0, sk T q, P) else if (cl T P (sk T q)).1 = 0 then su T d (cl T P (sk T q)).2.2 (cl T P (sk T q)).2.1 else cl T P (sk T q) := rfl
    rw [e] at z ⊢
    by_cases c : T (sk T q) = -1
    · rw [if_pos c]; exact h
    · rw [if_neg c] at z ⊢
      by_cases c2 : (cl T P (sk T q)).1 = 0
      · rw [if_pos c2] at z ⊢; exact ih (cl_z h c2) z
      · rw [if_neg c2] at z; exact absurd z c2
theorem pz_z {T : Nat → Int32} (z : (pz T).1 = 0) : PZ (pz T).2.2 := su_z 241 PZ_P0 z
/-- the class's survey: its order of lines -/
theorem s_55k {σ : St} {T : Nat → Int32} (hT : TX σ T) (h5 : 0 ≤ (σ 1 5).toInt) : CI 55 [.ref 0] σ (fun _ σ' => (pz T).1 = 0 → LKd ((pz T).2.2.1 1) ((pz T).2.2.2.2 2) (σ' 15)) := by
  refine w_55 (s_23 hT h5 fun σ1 f1 h1 => ?_)
  rcases h1 with ⟨e0, na, R1, D1⟩ | h1
  · rw [R1.z, if_pos rfl]
    refine w_13 (w_49 (s_193 fun σ2 g2 z2 => w_0 (w_11 ?_)))
    intro _
    obtain ⟨b0, d1, d2, d3, d4, d5, d6, d7, d8, f, hf, hq⟩ := D1
    refine ⟨f, hf, fun i hi => ((g2 15 i (by omega)).trans ?_).trans (hq i hi)⟩
    exact cpy0 (n := 12) (by have := b0.2.1; omega)
  · have hne := h1.ne
    obtain ⟨e0, q, na, R1⟩ := h1
    rw [if_neg hne]
    exact fun z => absurd z e0
