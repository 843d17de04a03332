theorem PW.iald {X : Scr} {y pc ln a n : Nat} {i : Int32} {lv : Lv} {r : List Value} {σ : St} {Q : Option Value → St → Prop} (hi : ins y pc = some (.iaload, ln)) (ha : arrN false a = some n) (hin : inN i n = true) (h : PW X y (pc + 1) lv (.int (σ a i.toNatClampNeg) :: r) σ Q) : PW X y pc lv (.int i :: .ref a :: r) σ Q := by
  have ne : ¬ a = 1000 := fun e => by rw [e] at ha; cases ha
  refine PW.step (q := (pc + 1, lv, .int (σ a i.toNatClampNeg) :: r, σ)) hi rfl ?_ h
  simp only [stp, p1, pr]
  split
  · rw [if_neg ne, ha, Option.bind_some, if_pos hin]
  · rw [ha, Option.bind_some, if_pos hin]
theorem PW.iast {X : Scr} {y pc ln a n : Nat} {i v : Int32} {lv : Lv} {r : List Value} {σ : St} {Q : Option Value → St → Prop} (hi : ins y pc = some (.iastore, ln)) (ha : arrN false a = some n) (hin : inN i n = true) (h : PW X y (pc + 1) lv r (s2 σ a i.toNatClampNeg v) Q) : PW X y pc lv (.int v :: .int i :: .ref a :: r) σ Q := by
  refine PW.step (q := (pc + 1, lv, r, s2 σ a i.toNatClampNeg v)) hi rfl ?_ h
  simp only [stp, p1, pr]
  rw [ha, Option.bind_some, if_pos hin]
theorem lg_gt0 {a c : Int64} : 0 < lg_cmp a c ↔ ¬ a ≤ c := by
  rw [Int64.not_le]
  unfold lg_cmp
  split
  · rename_i h
    exact ⟨fun _ => h, fun _ => by decide⟩
  · rename_i h
    split
    · exact ⟨fun z => absurd z (by decide), fun z => absurd z h⟩
    · exact ⟨fun z => absurd z (by decide), fun z => absurd z h⟩
theorem lg_lt0 {a b : Int64} : lg_cmp a b < 0 ↔ ¬ b ≤ a := by rw [← lg_cmp_ge]; exact Int32.not_le.symm
theorem cnd_eqT {p : Prop} [Decidable p] : cnd .eq (if p then (1 : Int32) else 0) 0 = true ↔ ¬ p := by
  by_cases h : p
  · rw [if_pos h]; exact ⟨fun z => absurd z (by decide), fun z => absurd h z⟩
  · rw [if_neg h]; exact ⟨fun _ => h, fun _ => rfl⟩
theorem cnd_eqF {p : Prop} [Decidable p] : cnd .eq (if p then (1 : Int32) else 0) 0 = false ↔ p := by
  by_cases h : p
  · rw [if_pos h]; exact ⟨fun _ => h, fun _ => rfl⟩
  · rw [if_neg h]; exact ⟨fun z => absurd z (by decide), fun z => absurd z h⟩
theorem cnd_neT {p : Prop} [Decidable p] : cnd .ne (if p then (1 : Int32) else 0) 0 = true ↔ p := by
  by_cases h : p
  · rw [if_pos h]; exact ⟨fun _ => h, fun _ => rfl⟩
  · rw [if_neg h]; exact ⟨fun z => absurd z (by decide), fun z => absurd z h⟩
theorem cnd_neF {p : Prop} [Decidable p] : cnd .ne (if p then (1 : Int32) else 0) 0 = false ↔ ¬ p := by
  by_cases h : p
  · rw [if_pos h]; exact ⟨fun z => absurd z (by decide), fun z => absurd h z⟩
  · rw [if_neg h]; exact ⟨fun _ => h, fun _ => rfl⟩
/-- MapDutyModel.in -/
theorem pw_in {a b c : Int64} {σ : St} {Q : Option Value → St → Prop} (h : Q (some (.int (if b ≤ a ∧ a ≤ c then 1 else 0))) σ) : PW none 109 0 (ent 109 [.long a, .long b, .long c]) [] σ Q := by
  show PW none 109 0 [some (.long a), none, some (.long b), none, some (.long c), none] [] σ Q
  refine PW.runs hw_109 rfl 3 (q := (0, [some (.long a), none, some (.long b), none, some (.long c), none], [], σ)) (q' := (3, [some (.long a), none, some (.long b), none, some (.long c), none], [.int (lg_cmp a b)], σ)) rfl ?_
  refine PW.ifc (t := 17) (ins_l hw_109 rfl) rfl (fun c1 => ?_) (fun c1 => ?_)
  · refine PW.runs hw_109 rfl 1 (q := (17, [some (.long a), none, some (.long b), none, some (.long c), none], [], σ)) (q' := (18, [some (.long a), none, some (.long b), none, some (.long c), none], [.int 0], σ)) rfl ?_
    simp only [cnd, decide_eq_true_eq, decide_eq_false_iff_not, lg_gt0, lg_lt0, Classical.not_not] at c1
    refine PW.iret (ins_l hw_109 rfl) (Or.inr ⟨rfl, by decide⟩) ?_
    simpa [c1] using h
  · refine PW.runs hw_109 rfl 3 (q := (6, [some (.long a), none, some (.long b), none, some (.long c), none], [], σ)) (q' := (10, [some (.long a), none, some (.long b), none, some (.long c), none], [.int (lg_cmp a c)], σ)) rfl ?_
    refine PW.ifc (t := 17) (ins_l hw_109 rfl) rfl (fun c2 => ?_) (fun c2 => ?_)
    · refine PW.runs hw_109 rfl 1 (q := (17, [some (.long a), none, some (.long b), none, some (.long c), none], [], σ)) (q' := (18, [some (.long a), none, some (.long b), none, some (.long c), none], [.int 0], σ)) rfl ?_
      simp only [cnd, decide_eq_true_eq, decide_eq_false_iff_not, lg_gt0, lg_lt0, Classical.not_not] at c1 c2
      refine PW.iret (ins_l hw_109 rfl) (Or.inr ⟨rfl, by decide⟩) ?_
      simpa [c1, c2] using h
    · refine PW.runs hw_109 rfl 2 (q := (13, [some (.long a), none, some (.long b), none, some (.long c), none], [], σ)) (q' := (18, [some (.long a), none, some (.long b), none, some (.long c), none], [.int 1], σ)) rfl ?_
      simp only [cnd, decide_eq_true_eq, decide_eq_false_iff_not, lg_gt0, lg_lt0, Classical.not_not] at c1 c2
      refine PW.iret (ins_l hw_109 rfl) (Or.inr ⟨rfl, by decide⟩) ?_
      simpa [c1, c2] using h
/-- the loop of quiet (76) -/
theorem pw_qloop76 {r0 : Nat} {n q : Int32} {σ : St} {Q : Option Value → St → Prop} : ∀ (d : Nat) (o : Int64) (k : Int32), 0 ≤ k.toInt → k.toInt + d = n.toInt → Q (some (.int (qIt d q.toInt64 o).toInt32)) σ → PW none 76 30 [some (.ref r0), some (.int n), some (.int q), some (.long o), none, some (.int k)] [] σ Q := by
  intro d
  induction d with
  | zero =>
    intro o k h0 h1 h
    have hc : cnd .ge k n = true := by simp only [cnd, decide_eq_true_eq, Int32.le_iff_toInt_le]; omega
    refine PW.runs hw_76 rfl 2 (q := (30, [some (.ref r0), some (.int n), some (.int q), some (.long o), none, some (.int k)], [], σ)) (q' := (33, [some (.ref r0), some (.int n), some (.int q), some (.long o), none, some (.int k)], [.int n, .int k], σ)) rfl ?_
    refine PW.icm (t := 51) (ins_l hw_76 rfl) rfl (fun c1 => ?_) (fun c1 => ?_)
    · refine PW.runs hw_76 rfl 2 (q := (51, [some (.ref r0), some (.int n), some (.int q), some (.long o), none, some (.int k)], [], σ)) (q' := (53, [some (.ref r0), some (.int n), some (.int q), some (.long o), none, some (.int k)], [.int (Int64.toInt32 o)], σ)) rfl ?_
      exact PW.iret (ins_l hw_76 rfl) (Or.inl rfl) h
    · rw [hc] at c1; cases c1
  | succ d ih =>
    intro o k h0 h1 h
    have hc : cnd .ge k n = false := by simp only [cnd, decide_eq_false_iff_not, Int32.le_iff_toInt_le]; omega
    have hn := rng32 n
    unfold lo32 hi32 at hn
    have hk : (k + Int32.ofInt 1).toInt = k.toInt + 1 := by
      rw [Int32.toInt_add]
      exact bm32 (by unfold lo32; show (-2147483648 : Int) ≤ k.toInt + 1; omega) (by unfold hi32; show k.toInt + 1 ≤ (2147483647 : Int); omega)
    refine PW.runs hw_76 rfl 2 (q := (30, [some (.ref r0), some (.int n), some (.int q), some (.long o), none, some (.int k)], [], σ)) (q' := (33, [some (.ref r0), some (.int n), some (.int q), some (.long o), none, some (.int k)], [.int n, .int k], σ)) rfl ?_
    refine PW.icm (t := 51) (ins_l hw_76 rfl) rfl (fun c1 => ?_) (fun c1 => ?_)
    · rw [hc] at c1; cases c1
    · refine PW.runs hw_76 rfl 9 (q := (36, [some (.ref r0), some (.int n), some (.int q), some (.long o), none, some (.int k)], [], σ)) (q' := (30, [some (.ref r0), some (.int n), some (.int q), some (.long ((o * (Int32.toInt64 q)) / 100)), none, some (.int (k + Int32.ofInt 1))], [], σ)) rfl ?_
      exact ih _ _ (by rw [hk]; omega) (by rw [hk]; omega) h
/-- quiet (76) -/
theorem pw_quiet76 {r0 : Nat} {n q : Int32} {σ : St} {Q : Option Value → St → Prop} (h : Q (some (.int (qF n q))) σ) : PW none 76 0 (ent 76 [.ref r0, .int n, .int q]) [] σ Q := by
  show PW none 76 0 [some (.ref r0), some (.int n), some (.int q), none, none, none] [] σ Q
  refine PW.runs hw_76 rfl 3 (q := (0, [some (.ref r0), some (.int n), some (.int q), none, none, none], [], σ)) (q' := (4, [some (.ref r0), some (.int n), some (.int q), none, none, none], [.int 60, .int 0, .int n], σ)) rfl ?_
  refine PW.callS (vs := [.int n, .int 0, .int 60]) (rest := []) (ins_l hw_76 rfl) rfl (Or.inl rfl) rfl (Nat.le_of_ble_eq_true rfl) (Nat.le_of_ble_eq_true rfl) ?_
  refine pw_within ?_
  refine PW.ifc (t := 20) (ins_l hw_76 rfl) rfl (fun c1 => ?_) (fun c1 => ?_)
  · refine PW.runs hw_76 rfl 1 (q := (20, [some (.ref r0), some (.int n), some (.int q), none, none, none], [], σ)) (q' := (22, [some (.ref r0), some (.int n), some (.int q), none, none, none], [.int ((-1000000002))], σ)) rfl ?_
    have hq : (n < 0 ∨ 60 < n) ∨ (q < 0 ∨ 100 < q) := by
      have e0 : (0 : Int32).toInt = 0 := rfl; have e60 : (60 : Int32).toInt = 60 := rfl; have e100 : (100 : Int32).toInt = 100 := rfl; have f0 : (0 : Int64).toInt = 0 := rfl; have f60 : (60 : Int64).toInt = 60 := rfl; have f100 : (100 : Int64).toInt = 100 := rfl; simp only [cnd_eqT, cnd_eqF, cnd_neT, cnd_neF, Int32.le_iff_toInt_le, Int32.lt_iff_toInt_lt, Int64.le_iff_toInt_le, Int32.toInt_toInt64, e0, e60, e100, f0, f60, f100] at c1 ⊢; omega
    unfold qF at h
    rw [if_pos hq] at h
    exact PW.iret (ins_l hw_76 rfl) (Or.inl rfl) h
  · refine PW.runs hw_76 rfl 3 (q := (10, [some (.ref r0), some (.int n), some (.int q), none, none, none], [], σ)) (q' := (14, [some (.ref r0), some (.int n), some (.int q), none, none, none], [.int 100, .int 0, .int q], σ)) rfl ?_
    refine PW.callS (vs := [.int q, .int 0, .int 100]) (rest := []) (ins_l hw_76 rfl) rfl (Or.inl rfl) rfl (Nat.le_of_ble_eq_true rfl) (Nat.le_of_ble_eq_true rfl) ?_
    refine pw_within ?_
    refine PW.ifc (t := 23) (ins_l hw_76 rfl) rfl (fun c2 => ?_) (fun c2 => ?_)
    · refine PW.runs hw_76 rfl 4 (q := (23, [some (.ref r0), some (.int n), some (.int q), none, none, none], [], σ)) (q' := (30, [some (.ref r0), some (.int n), some (.int q), some (.long 1000000000), none, some (.int 0)], [], σ)) rfl ?_
      have hq : ¬ ((n < 0 ∨ 60 < n) ∨ (q < 0 ∨ 100 < q)) := by
        have e0 : (0 : Int32).toInt = 0 := rfl; have e60 : (60 : Int32).toInt = 60 := rfl; have e100 : (100 : Int32).toInt = 100 := rfl; have f0 : (0 : Int64).toInt = 0 := rfl; have f60 : (60 : Int64).toInt = 60 := rfl; have f100 : (100 : Int64).toInt = 100 := rfl; simp only [cnd_eqT, cnd_eqF, cnd_neT, cnd_neF, Int32.le_iff_toInt_le, Int32.lt_iff_toInt_lt, Int64.le_iff_toInt_le, Int32.toInt_toInt64, e0, e60, e100, f0, f60, f100] at c1 c2 ⊢; omega
      have hn : 0 ≤ n.toInt := by have : ¬ n < 0 := fun z => hq (Or.inl (Or.inl z)); rw [Int32.lt_iff_toInt_lt] at this; exact Int.not_lt.mp this
      unfold qF at h
      rw [if_neg hq] at h
      exact pw_qloop76 n.toNatClampNeg _ 0 (Int.le_refl _) (by show (0 : Int) + (n.toInt.toNat : Int) = n.toInt; omega) h
    · refine PW.runs hw_76 rfl 1 (q := (20, [some (.ref r0), some (.int n), some (.int q), none, none, none], [], σ)) (q' := (22, [some (.ref r0), some (.int n), some (.int q), none, none, none], [.int ((-1000000002))], σ)) rfl ?_
      have hq : (n < 0 ∨ 60 < n) ∨ (q < 0 ∨ 100 < q) := by
        have e0 : (0 : Int32).toInt = 0 := rfl; have e60 : (60 : Int32).toInt = 60 := rfl; have e100 : (100 : Int32).toInt = 100 := rfl; have f0 : (0 : Int64).toInt = 0 := rfl; have f60 : (60 : Int64).toInt = 60 := rfl; have f100 : (100 : Int64).toInt = 100 := rfl; simp only [cnd_eqT, cnd_eqF, cnd_neT, cnd_neF, Int32.le_iff_toInt_le, Int32.lt_iff_toInt_lt, Int64.le_iff_toInt_le, Int32.toInt_toInt64, e0, e60, e100, f0, f60, f100] at c1 c2 ⊢; omega
      unfold qF at h
      rw [if_pos hq] at h
      exact PW.iret (ins_l hw_76 rfl) (Or.inl rfl) h
/-- the loop of quiet (183) -/
theorem pw_qloop183 {r0 : Nat} {n q : Int32} {σ : St} {Q : Option Value → St → Prop} : ∀ (d : Nat) (o : Int64) (k : Int32), 0 ≤ k.toInt → k.toInt + d = n.toInt → Q (some (.int (qIt d q.toInt64 o).toInt32)) σ → PW none 183 34 [some (.ref r0), some (.int n), some (.int q), some (.long o), none, some (.int k)] [] σ Q := by
  intro d
  induction d with
  | zero =>
    intro o k h0 h1 h
    have hc : cnd .ge k n = true := by simp only [cnd, decide_eq_true_eq, Int32.le_iff_toInt_le]; omega
    refine PW.runs hw_183 rfl 2 (q := (34, [some (.ref r0), some (.int n), some (.int q), some (.long o), none, some (.int k)], [], σ)) (q' := (37, [some (.ref r0), some (.int n), some (.int q), some (.long o), none, some (.int k)], [.int n, .int k], σ)) rfl ?_
    refine PW.icm (t := 55) (ins_l hw_183 rfl) rfl (fun c1 => ?_) (fun c1 => ?_)
    · refine PW.runs hw_183 rfl 2 (q := (55, [some (.ref r0), some (.int n), some (.int q), some (.long o), none, some (.int k)], [], σ)) (q' := (57, [some (.ref r0), some (.int n), some (.int q), some (.long o), none, some (.int k)], [.int (Int64.toInt32 o)], σ)) rfl ?_
      exact PW.iret (ins_l hw_183 rfl) (Or.inl rfl) h
    · rw [hc] at c1; cases c1
  | succ d ih =>
    intro o k h0 h1 h
    have hc : cnd .ge k n = false := by simp only [cnd, decide_eq_false_iff_not, Int32.le_iff_toInt_le]; omega
    have hn := rng32 n
    unfold lo32 hi32 at hn
    have hk : (k + Int32.ofInt 1).toInt = k.toInt + 1 := by
      rw [Int32.toInt_add]
      exact bm32 (by unfold lo32; show (-2147483648 : Int) ≤ k.toInt + 1; omega) (by unfold hi32; show k.toInt + 1 ≤ (2147483647 : Int); omega)
    refine PW.runs hw_183 rfl 2 (q := (34, [some (.ref r0), some (.int n), some (.int q), some (.long o), none, some (.int k)], [], σ)) (q' := (37, [some (.ref r0), some (.int n), some (.int q), some (.long o), none, some (.int k)], [.int n, .int k], σ)) rfl ?_
    refine PW.icm (t := 55) (ins_l hw_183 rfl) rfl (fun c1 => ?_) (fun c1 => ?_)
    · rw [hc] at c1; cases c1
    · refine PW.runs hw_183 rfl 9 (q := (40, [some (.ref r0), some (.int n), some (.int q), some (.long o), none, some (.int k)], [], σ)) (q' := (34, [some (.ref r0), some (.int n), some (.int q), some (.long ((o * (Int32.toInt64 q)) / 100)), none, some (.int (k + Int32.ofInt 1))], [], σ)) rfl ?_
      exact ih _ _ (by rw [hk]; omega) (by rw [hk]; omega) h
/-- quiet (183) -/
theorem pw_quiet183 {r0 : Nat} {n q : Int32} {σ : St} {Q : Option Value → St → Prop} (h : Q (some (.int (qF n q))) σ) : PW none 183 0 (ent 183 [.ref r0, .int n, .int q]) [] σ Q := by
  show PW none 183 0 [some (.ref r0), some (.int n), some (.int q), none, none, none] [] σ Q
  refine PW.runs hw_183 rfl 4 (q := (0, [some (.ref r0), some (.int n), some (.int q), none, none, none], [], σ)) (q' := (6, [some (.ref r0), some (.int n), some (.int q), none, none, none], [.long 60, .long 0, .long (Int32.toInt64 n)], σ)) rfl ?_
  refine PW.callS (vs := [.long (Int32.toInt64 n), .long 0, .long 60]) (rest := []) (ins_l hw_183 rfl) rfl (Or.inl rfl) rfl (Nat.le_of_ble_eq_true rfl) (Nat.le_of_ble_eq_true rfl) ?_
  refine pw_in ?_
  refine PW.ifc (t := 24) (ins_l hw_183 rfl) rfl (fun c1 => ?_) (fun c1 => ?_)
  · refine PW.runs hw_183 rfl 1 (q := (24, [some (.ref r0), some (.int n), some (.int q), none, none, none], [], σ)) (q' := (26, [some (.ref r0), some (.int n), some (.int q), none, none, none], [.int ((-1000000002))], σ)) rfl ?_
    have hq : (n < 0 ∨ 60 < n) ∨ (q < 0 ∨ 100 < q) := by
      have e0 : (0 : Int32).toInt = 0 := rfl; have e60 : (60 : Int32).toInt = 60 := rfl; have e100 : (100 : Int32).toInt = 100 := rfl; have f0 : (0 : Int64).toInt = 0 := rfl; have f60 : (60 : Int64).toInt = 60 := rfl; have f100 : (100 : Int64).toInt = 100 := rfl; simp only [cnd_eqT, cnd_eqF, cnd_neT, cnd_neF, Int32.le_iff_toInt_le, Int32.lt_iff_toInt_lt, Int64.le_iff_toInt_le, Int32.toInt_toInt64, e0, e60, e100, f0, f60, f100] at c1 ⊢; omega
    unfold qF at h
    rw [if_pos hq] at h
    exact PW.iret (ins_l hw_183 rfl) (Or.inl rfl) h
  · refine PW.runs hw_183 rfl 4 (q := (12, [some (.ref r0), some (.int n), some (.int q), none, none, none], [], σ)) (q' := (18, [some (.ref r0), some (.int n), some (.int q), none, none, none], [.long 100, .long 0, .long (Int32.toInt64 q)], σ)) rfl ?_
    refine PW.callS (vs := [.long (Int32.toInt64 q), .long 0, .long 100]) (rest := []) (ins_l hw_183 rfl) rfl (Or.inl rfl) rfl (Nat.le_of_ble_eq_true rfl) (Nat.le_of_ble_eq_true rfl) ?_
    refine pw_in ?_
    refine PW.ifc (t := 27) (ins_l hw_183 rfl) rfl (fun c2 => ?_) (fun c2 => ?_)
    · refine PW.runs hw_183 rfl 4 (q := (27, [some (.ref r0), some (.int n), some (.int q), none, none, none], [], σ)) (q' := (34, [some (.ref r0), some (.int n), some (.int q), some (.long 1000000000), none, some (.int 0)], [], σ)) rfl ?_
      have hq : ¬ ((n < 0 ∨ 60 < n) ∨ (q < 0 ∨ 100 < q)) := by
        have e0 : (0 : Int32).toInt = 0 := rfl; have e60 : (60 : Int32).toInt = 60 := rfl; have e100 : (100 : Int32).toInt = 100 := rfl; have f0 : (0 : Int64).toInt = 0 := rfl; have f60 : (60 : Int64).toInt = 60 := rfl; have f100 : (100 : Int64).toInt = 100 := rfl; simp only [cnd_eqT, cnd_eqF, cnd_neT, cnd_neF, Int32.le_iff_toInt_le, Int32.lt_iff_toInt_lt, Int64.le_iff_toInt_le, Int32.toInt_toInt64, e0, e60, e100, f0, f60, f100] at c1 c2 ⊢; omega
      have hn : 0 ≤ n.toInt := by have : ¬ n < 0 := fun z => hq (Or.inl (Or.inl z)); rw [Int32.lt_iff_toInt_lt] at this; exact Int.not_lt.mp this
      unfold qF at h
      rw [if_neg hq] at h
      exact pw_qloop183 n.toNatClampNeg _ 0 (Int.le_refl _) (by show (0 : Int) + (n.toInt.toNat : Int) = n.toInt; omega) h
    · refine PW.runs hw_183 rfl 1 (q := (24, [some (.ref r0), some (.int n), some (.int q), none, none, none], [], σ)) (q' := (26, [some (.ref r0), some (.int n), some (.int q), none, none, none], [.int ((-1000000002))], σ)) rfl ?_
      have hq : (n < 0 ∨ 60 < n) ∨ (q < 0 ∨ 100 < q) := by
        have e0 : (0 : Int32).toInt = 0 := rfl; have e60 : (60 : Int32).toInt = 60 := rfl; have e100 : (100 : Int32).toInt = 100 := rfl; have f0 : (0 : Int64).toInt = 0 := rfl; have f60 : (60 : Int64).toInt = 60 := rfl; have f100 : (100 : Int64).toInt = 100 := rfl; simp only [cnd_eqT, cnd_eqF, cnd_neT, cnd_neF, Int32.le_iff_toInt_le, Int32.lt_iff_toInt_lt, Int64.le_iff_toInt_le, Int32.toInt_toInt64, e0, e60, e100, f0, f60, f100] at c1 c2 ⊢; omega
      unfold qF at h
      rw [if_pos hq] at h
      exact PW.iret (ins_l hw_183 rfl) (Or.inl rfl) h
