theorem hw_110 : pins.getD 110 [] = pi_110 := rfl
theorem hw_138 : pins.getD 138 [] = pi_138 := rfl
theorem hw_141 : pins.getD 141 [] = pi_141 := rfl
theorem hw_142 : pins.getD 142 [] = pi_142 := rfl
theorem hw_130 : pins.getD 130 [] = pi_130 := rfl
theorem hw_131 : pins.getD 131 [] = pi_131 := rfl
/-- MapDutyModel.has -/
theorem pw_has {s l : Int32} {σ : St} {Q : Option Value → St → Prop} (h : Q (some (.int (if (s >>> (l &&& 31)) &&& 1 = 1 then 1 else 0))) σ) : PW none 110 0 (ent 110 [.int s, .int l]) [] σ Q := by
  show PW none 110 0 [some (.int s), some (.int l)] [] σ Q
  refine PW.runs hw_110 rfl 6 (q := (0, [some (.int s), some (.int l)], [], σ)) (q' := (6, [some (.int s), some (.int l)], [.int 1, .int ((s >>> (l &&& 31)) &&& 1)], σ)) rfl ?_
  refine PW.icm (t := 13) (ins_l hw_110 rfl) rfl (fun c1 => ?_) (fun c1 => ?_)
  · refine PW.runs hw_110 rfl 1 (q := (13, [some (.int s), some (.int l)], [], σ)) (q' := (14, [some (.int s), some (.int l)], [.int 0], σ)) rfl ?_
    simp only [cnd, decide_eq_true_eq, decide_eq_false_iff_not, Classical.not_not] at c1
    refine PW.iret (ins_l hw_110 rfl) (Or.inr ⟨rfl, by decide⟩) ?_
    simpa [c1] using h
  · refine PW.runs hw_110 rfl 2 (q := (9, [some (.int s), some (.int l)], [], σ)) (q' := (14, [some (.int s), some (.int l)], [.int 1], σ)) rfl ?_
    simp only [cnd, decide_eq_true_eq, decide_eq_false_iff_not, Classical.not_not] at c1
    refine PW.iret (ins_l hw_110 rfl) (Or.inr ⟨rfl, by decide⟩) ?_
    simpa [c1] using h
/-- MapDutyModel.across -/
def acr (σ : St) (l a : Int32) : Int32 := if σ 40 l.toNatClampNeg = a then σ 41 l.toNatClampNeg else if σ 41 l.toNatClampNeg = a then σ 40 l.toNatClampNeg else -1
theorem pw_across {l a : Int32} {σ : St} {Q : Option Value → St → Prop} (hin : inN l 12 = true) (h : Q (some (.int (acr σ l a))) σ) : PW none 138 0 (ent 138 [.ref 39, .int l, .int a]) [] σ Q := by
  show PW none 138 0 [some (.ref 39), some (.int l), some (.int a)] [] σ Q
  refine PW.runs hw_138 rfl 3 (q := (0, [some (.ref 39), some (.int l), some (.int a)], [], σ)) (q' := (5, [some (.ref 39), some (.int l), some (.int a)], [.int l, .ref 40], σ)) rfl ?_
  refine PW.iald (n := 12) (ins_l hw_138 rfl) rfl hin ?_
  refine PW.runs hw_138 rfl 1 (q := (6, [some (.ref 39), some (.int l), some (.int a)], [.int (σ 40 (Int32.toNatClampNeg l))], σ)) (q' := (7, [some (.ref 39), some (.int l), some (.int a)], [.int a, .int (σ 40 (Int32.toNatClampNeg l))], σ)) rfl ?_
  refine PW.icm (t := 19) (ins_l hw_138 rfl) rfl (fun c1 => ?_) (fun c1 => ?_)
  · refine PW.runs hw_138 rfl 3 (q := (19, [some (.ref 39), some (.int l), some (.int a)], [], σ)) (q' := (24, [some (.ref 39), some (.int l), some (.int a)], [.int l, .ref 41], σ)) rfl ?_
    refine PW.iald (n := 12) (ins_l hw_138 rfl) rfl hin ?_
    refine PW.runs hw_138 rfl 1 (q := (25, [some (.ref 39), some (.int l), some (.int a)], [.int (σ 41 (Int32.toNatClampNeg l))], σ)) (q' := (26, [some (.ref 39), some (.int l), some (.int a)], [.int a, .int (σ 41 (Int32.toNatClampNeg l))], σ)) rfl ?_
    refine PW.icm (t := 38) (ins_l hw_138 rfl) rfl (fun c2 => ?_) (fun c2 => ?_)
    · refine PW.runs hw_138 rfl 1 (q := (38, [some (.ref 39), some (.int l), some (.int a)], [], σ)) (q' := (39, [some (.ref 39), some (.int l), some (.int a)], [.int ((-1))], σ)) rfl ?_
      simp only [cnd, decide_eq_true_eq, decide_eq_false_iff_not, Classical.not_not] at c1 c2
      refine PW.iret (ins_l hw_138 rfl) (Or.inl rfl) ?_
      unfold acr at h
      simpa [c1, c2] using h
    · refine PW.runs hw_138 rfl 3 (q := (29, [some (.ref 39), some (.int l), some (.int a)], [], σ)) (q' := (34, [some (.ref 39), some (.int l), some (.int a)], [.int l, .ref 40], σ)) rfl ?_
      refine PW.iald (n := 12) (ins_l hw_138 rfl) rfl hin ?_
      refine PW.runs hw_138 rfl 1 (q := (35, [some (.ref 39), some (.int l), some (.int a)], [.int (σ 40 (Int32.toNatClampNeg l))], σ)) (q' := (39, [some (.ref 39), some (.int l), some (.int a)], [.int (σ 40 (Int32.toNatClampNeg l))], σ)) rfl ?_
      simp only [cnd, decide_eq_true_eq, decide_eq_false_iff_not, Classical.not_not] at c1 c2
      refine PW.iret (ins_l hw_138 rfl) (Or.inl rfl) ?_
      unfold acr at h
      simpa [c1, c2] using h
  · refine PW.runs hw_138 rfl 3 (q := (10, [some (.ref 39), some (.int l), some (.int a)], [], σ)) (q' := (15, [some (.ref 39), some (.int l), some (.int a)], [.int l, .ref 41], σ)) rfl ?_
    refine PW.iald (n := 12) (ins_l hw_138 rfl) rfl hin ?_
    refine PW.runs hw_138 rfl 1 (q := (16, [some (.ref 39), some (.int l), some (.int a)], [.int (σ 41 (Int32.toNatClampNeg l))], σ)) (q' := (39, [some (.ref 39), some (.int l), some (.int a)], [.int (σ 41 (Int32.toNatClampNeg l))], σ)) rfl ?_
    simp only [cnd, decide_eq_true_eq, decide_eq_false_iff_not, Classical.not_not] at c1
    refine PW.iret (ins_l hw_138 rfl) (Or.inl rfl) ?_
    unfold acr at h
    simpa [c1] using h
theorem ofNat_s (n : Nat) : Int32.ofNat n + Int32.ofInt 1 = Int32.ofNat (n + 1) := nI_1 n
theorem ofNat_t {n : Nat} (h : n < 2 ^ 31) : (Int32.ofNat n).toInt = (n : Int) := Int32.toInt_ofNat_of_lt h
theorem ofNat_c {n : Nat} (h : n < 2 ^ 31) : (Int32.ofNat n).toNatClampNeg = n := Int32.toNatClampNeg_ofNat_of_lt h
theorem ofNat_in {n N : Nat} (h : n < N) (h2 : n < 2 ^ 31) : inN (Int32.ofNat n) N = true := (idx_in (by rw [ofNat_t h2]; omega) (by rw [ofNat_t h2]; omega)).1
def cpR (σ : St) (a b i m : Nat) : St := sr σ b (fun k => if i ≤ k ∧ k < m then σ a k else σ b k)
theorem cpR_end (σ : St) (a b m : Nat) : cpR σ a b m m = σ := by
  unfold cpR sr
  funext x
  by_cases e : x = b
  · subst e
    rw [if_pos rfl]
    funext k
    rw [if_neg (by omega)]
  · rw [if_neg e]
theorem cpR_step {σ : St} {a b i m : Nat} (hab : a ≠ b) (hi : i < m) : cpR (s2 σ b i (σ a i)) a b (i + 1) m = cpR σ a b i m := by
  unfold cpR
  funext x
  by_cases e : x = b
  · subst e
    rw [sr_self, sr_self]
    funext k
    rw [s2_ne (a := a) _ _ (fun z => hab z.1)]
    by_cases c : k = i
    · subst c
      rw [if_neg (by omega), if_pos ⟨Nat.le_refl _, hi⟩, s2_self]
    · rw [s2_ne (b := k) _ _ (fun z => c z.2)]
      by_cases c2 : i + 1 ≤ k ∧ k < m
      · rw [if_pos c2, if_pos ⟨by omega, c2.2⟩]
      · rw [if_neg c2, if_neg (by omega)]
  · rw [sr_ne _ _ e, sr_ne _ _ e]
    funext k
    exact s2_ne _ _ (fun z => e z.1)
/-- MapDutyModel.copyRow -/
theorem pw_cploop {a b na nb m : Nat} (ha : arrN false a = some na) (hb : arrN false b = some nb) (hab : a ≠ b) (hma : m ≤ na) (hmb : m ≤ nb) (hm : m < 2 ^ 31) {Q : Option Value → St → Prop} : ∀ (d i : Nat) (σ : St), i + d = m → Q none (cpR σ a b i m) → PW none 130 2 [some (.ref a), some (.ref b), some (.int (Int32.ofNat m)), some (.int (Int32.ofNat i))] [] σ Q := by
  intro d
  induction d with
  | zero =>
    intro i σ hi h
    have e : i = m := by omega
    rw [e] at h ⊢
    rw [cpR_end] at h
    refine PW.runs hw_130 rfl 2 (q := (2, [some (.ref a), some (.ref b), some (.int (Int32.ofNat m)), some (.int (Int32.ofNat m))], [], σ)) (q' := (4, [some (.ref a), some (.ref b), some (.int (Int32.ofNat m)), some (.int (Int32.ofNat m))], [.int (Int32.ofNat m), .int (Int32.ofNat m)], σ)) rfl ?_
    refine PW.icm (t := 19) (ins_l hw_130 rfl) rfl (fun c1 => ?_) (fun c1 => ?_)
    · exact PW.vret (ins_l hw_130 rfl) rfl h
    · simp only [cnd, decide_eq_false_iff_not] at c1
      exact absurd (Int32.le_refl _) c1
  | succ d ih =>
    intro i σ hi h
    refine PW.runs hw_130 rfl 2 (q := (2, [some (.ref a), some (.ref b), some (.int (Int32.ofNat m)), some (.int (Int32.ofNat i))], [], σ)) (q' := (4, [some (.ref a), some (.ref b), some (.int (Int32.ofNat m)), some (.int (Int32.ofNat i))], [.int (Int32.ofNat m), .int (Int32.ofNat i)], σ)) rfl ?_
    refine PW.icm (t := 19) (ins_l hw_130 rfl) rfl (fun c1 => ?_) (fun c1 => ?_)
    · simp only [cnd, decide_eq_true_eq, Int32.le_iff_toInt_le] at c1
      rw [ofNat_t (by omega), ofNat_t (by omega)] at c1
      omega
    · refine PW.runs hw_130 rfl 4 (q := (7, [some (.ref a), some (.ref b), some (.int (Int32.ofNat m)), some (.int (Int32.ofNat i))], [], σ)) (q' := (11, [some (.ref a), some (.ref b), some (.int (Int32.ofNat m)), some (.int (Int32.ofNat i))], [.int (Int32.ofNat i), .ref a, .int (Int32.ofNat i), .ref b], σ)) rfl ?_
      refine PW.iald (ins_l hw_130 rfl) ha (ofNat_in (by omega) (by omega)) ?_
      refine PW.iast (ins_l hw_130 rfl) hb (ofNat_in (by omega) (by omega)) ?_
      rw [ofNat_c (by omega)]
      refine PW.runs hw_130 rfl 2 (q := (13, [some (.ref a), some (.ref b), some (.int (Int32.ofNat m)), some (.int (Int32.ofNat i))], [], s2 σ b i (σ a i))) (q' := (2, [some (.ref a), some (.ref b), some (.int (Int32.ofNat m)), some (.int (Int32.ofNat i + Int32.ofInt 1))], [], s2 σ b i (σ a i))) rfl ?_
      rw [ofNat_s]
      exact ih (i + 1) _ (by omega) (by rw [cpR_step hab (by omega)]; exact h)
theorem pw_copyRow {a b na nb : Nat} {m : Int32} (ha : arrN false a = some na) (hb : arrN false b = some nb) (hab : a ≠ b) (h0 : 0 ≤ m.toInt) (hma : m.toInt ≤ na) (hmb : m.toInt ≤ nb) {Q : Option Value → St → Prop} {σ : St} (h : Q none (cpR σ a b 0 m.toInt.toNat)) : PW none 130 0 (ent 130 [.ref a, .ref b, .int m]) [] σ Q := by
  have hm := rng32 m
  unfold lo32 hi32 at hm
  have em : m = Int32.ofNat m.toInt.toNat := by
    rw [← Int32.toInt_inj, ofNat_t (by omega)]; omega
  refine PW.runs hw_130 rfl 2 (q := (0, [some (.ref a), some (.ref b), some (.int m), none], [], σ)) (q' := (2, [some (.ref a), some (.ref b), some (.int m), some (.int (Int32.ofNat 0))], [], σ)) rfl ?_
  have := pw_cploop ha hb hab (m := m.toInt.toNat) (by omega) (by omega) (by omega) (Q := Q) m.toInt.toNat 0 σ (by omega) h
  rw [← em] at this
  exact this
