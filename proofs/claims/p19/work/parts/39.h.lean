/-! the reference's survey -/
theorem s_130 {a b na nb : Nat} {m : Int32} {σ : St} {K : St → Prop} (ha : arrN false a = some na) (hb : arrN false b = some nb) (hab : a ≠ b) (h0 : 0 ≤ m.toInt) (hma : m.toInt ≤ na) (hmb : m.toInt ≤ nb) (h : K (cpR σ a b 0 m.toInt.toNat)) : CV 130 [.ref a, .ref b, .int m] σ K := pw_copyRow ha hb hab h0 hma hmb ⟨rfl, h⟩
theorem s_131l {K : St → Prop} : ∀ (d i : Nat) {σ : St}, i + d = 14 → (∀ j, j < i → σ 46 j = 0) → (∀ σ', (∀ k j, ¬ k = 46 → σ' k j = σ k j) → (∀ j, j < 14 → σ' 46 j = 0) → CV 130 [.ref 44, .ref 46, .int (σ' 39 6)] σ' (fun σ1 => K (s2 σ1 46 10 (σ1 39 5)))) → PV 131 132 [some (.ref 39), some (.int (Int32.ofNat i))] [] σ K := by
  have l14 : (14 : Int32).toInt = 14 := rfl
  intro d
  induction d with
  | zero =>
    intro i σ hi hz hK
    refine w_131_132 ?_
    rw [if_pos (by rw [Int32.le_iff_toInt_le, l14, ti_of (by omega)]; omega)]
    exact hK σ (fun _ _ _ => rfl) (fun j hj => hz j (by omega))
  | succ d ih =>
    intro i σ hi hz hK
    refine w_131_132 ?_
    rw [if_neg (by rw [Int32.le_iff_toInt_le, l14, ti_of (by omega)]; omega)]
    refine ⟨by rw [ti_of (by omega)]; omega, ?_⟩
    rw [tc_of (by omega), of_s]
    refine ih (i + 1) (by omega) (fun j hj => ?_) (fun σ' g z => hK σ' (fun k j hk => (g k j hk).trans (s2_ne _ _ (fun e => hk e.1))) z)
    show (if j = i then 0 else σ 46 j) = 0
    by_cases c : j = i
    · rw [if_pos c]
    · rw [if_neg c]; exact hz j (by omega)
theorem cp_lt {σ : St} {a b m j : Nat} (h : j < m) : cpR σ a b 0 m b j = σ a j := by
  unfold cpR
  rw [sr_self, if_pos ⟨Nat.zero_le _, h⟩]
theorem cp_ge {σ : St} {a b m j : Nat} (h : m ≤ j) : cpR σ a b 0 m b j = σ b j := by
  unfold cpR
  rw [sr_self, if_neg (by omega)]
theorem cp_ne {σ : St} {a b m k j : Nat} (h : ¬ k = b) : cpR σ a b 0 m k j = σ k j := by
  unfold cpR
  rw [sr_ne _ _ h]
theorem s_131 {σ : St} {P : PS} {K : St → Prop} (hR : MR σ P) (hK : ∀ σ', (∀ k j, (k = 39 → j = 12 ∨ j = 14 ∨ j = 15 ∨ 32 ≤ j) → (k < 40 ∨ 46 < k) → σ' k j = σ k j) → MPl σ' P → σ' 46 10 = P.2.1 → σ' 46 11 = 0 → σ' 46 12 = 0 → σ' 46 13 = 0 → (∀ j, j < P.1 2 → σ' 46 j = P.2.2 4 j) → (∀ j, j < 5 → σ' 46 (5 + j) = 0) → K σ') : CV 131 [.ref 39] σ K := by
  obtain ⟨b0, h1, h2, h3, h4, h5, h6, h7, h8⟩ := hR
  obtain ⟨c0, c1, c2, c3⟩ := b0
  have tL : (Int32.ofNat (P.1 1)).toInt = (P.1 1 : Int) := ti_of (by omega)
  have tM : (Int32.ofNat (P.1 2)).toInt = (P.1 2 : Int) := ti_of (by omega)
  have tI : (Int32.ofNat (P.1 3)).toInt = (P.1 3 : Int) := ti_of (by omega)
  have nL : (Int32.ofNat (P.1 1)).toInt.toNat = P.1 1 := by rw [tL]; omega
  have nM : (Int32.ofNat (P.1 2)).toInt.toNat = P.1 2 := by rw [tM]; omega
  have nI : (Int32.ofNat (P.1 3)).toInt.toNat = P.1 3 := by rw [tI]; omega
  refine w_131 ?_
  rw [h1, h2, h3, h4, h5]
  have a0 : ∀ j, ¬ j = 0 → ¬ j = 1 → ¬ j = 5 → ¬ j = 6 → ¬ j = 9 → (s2 (s2 (s2 (s2 (s2 σ 39 0 (Int32.ofNat (P.1 0))) 39 1 (Int32.ofNat (P.1 1))) 39 5 P.2.1) 39 6 (Int32.ofNat (P.1 2))) 39 9 (Int32.ofNat (P.1 3))) 39 j = σ 39 j := fun j e0 e1 e2 e3 e4 => by rw [s2_ne _ _ (by omega), s2_ne _ _ (by omega), s2_ne _ _ (by omega), s2_ne _ _ (by omega), s2_ne _ _ (by omega)]
  have ak : ∀ k j, ¬ k = 39 → (s2 (s2 (s2 (s2 (s2 σ 39 0 (Int32.ofNat (P.1 0))) 39 1 (Int32.ofNat (P.1 1))) 39 5 P.2.1) 39 6 (Int32.ofNat (P.1 2))) 39 9 (Int32.ofNat (P.1 3))) k j = σ k j := fun k j hk => by rw [s2_ne _ _ (by omega), s2_ne _ _ (by omega), s2_ne _ _ (by omega), s2_ne _ _ (by omega), s2_ne _ _ (by omega)]
  have p0 : (s2 (s2 (s2 (s2 (s2 σ 39 0 (Int32.ofNat (P.1 0))) 39 1 (Int32.ofNat (P.1 1))) 39 5 P.2.1) 39 6 (Int32.ofNat (P.1 2))) 39 9 (Int32.ofNat (P.1 3))) 39 0 = Int32.ofNat (P.1 0) := rfl
  have p1 : (s2 (s2 (s2 (s2 (s2 σ 39 0 (Int32.ofNat (P.1 0))) 39 1 (Int32.ofNat (P.1 1))) 39 5 P.2.1) 39 6 (Int32.ofNat (P.1 2))) 39 9 (Int32.ofNat (P.1 3))) 39 1 = Int32.ofNat (P.1 1) := rfl
  have p5 : (s2 (s2 (s2 (s2 (s2 σ 39 0 (Int32.ofNat (P.1 0))) 39 1 (Int32.ofNat (P.1 1))) 39 5 P.2.1) 39 6 (Int32.ofNat (P.1 2))) 39 9 (Int32.ofNat (P.1 3))) 39 5 = P.2.1 := rfl
  have p6 : (s2 (s2 (s2 (s2 (s2 σ 39 0 (Int32.ofNat (P.1 0))) 39 1 (Int32.ofNat (P.1 1))) 39 5 P.2.1) 39 6 (Int32.ofNat (P.1 2))) 39 9 (Int32.ofNat (P.1 3))) 39 6 = Int32.ofNat (P.1 2) := rfl
  have p9 : (s2 (s2 (s2 (s2 (s2 σ 39 0 (Int32.ofNat (P.1 0))) 39 1 (Int32.ofNat (P.1 1))) 39 5 P.2.1) 39 6 (Int32.ofNat (P.1 2))) 39 9 (Int32.ofNat (P.1 3))) 39 9 = Int32.ofNat (P.1 3) := rfl
  generalize s2 (s2 (s2 (s2 (s2 σ 39 0 (Int32.ofNat (P.1 0))) 39 1 (Int32.ofNat (P.1 1))) 39 5 P.2.1) 39 6 (Int32.ofNat (P.1 2))) 39 9 (Int32.ofNat (P.1 3)) = τ at a0 ak p0 p1 p5 p6 p9 ⊢
  refine s_130 (na := 12) (nb := 12) rfl rfl (by decide) (by omega) (by omega) (by omega) ?_
  rw [nL, cp_ne (by decide), p1]
  refine s_130 (na := 12) (nb := 12) rfl rfl (by decide) (by omega) (by omega) (by omega) ?_
  rw [nL, cp_ne (by decide), cp_ne (by decide), p1]
  refine s_130 (na := 12) (nb := 12) rfl rfl (by decide) (by omega) (by omega) (by omega) ?_
  rw [nL, cp_ne (by decide), cp_ne (by decide), cp_ne (by decide), p6]
  refine s_130 (na := 5) (nb := 5) rfl rfl (by decide) (by omega) (by omega) (by omega) ?_
  rw [nM, cp_ne (by decide), cp_ne (by decide), cp_ne (by decide), cp_ne (by decide), p6]
  refine s_130 (na := 5) (nb := 5) rfl rfl (by decide) (by omega) (by omega) (by omega) ?_
  rw [nM, cp_ne (by decide), cp_ne (by decide), cp_ne (by decide), cp_ne (by decide), cp_ne (by decide), p9]
  refine s_130 (na := 4) (nb := 4) rfl rfl (by decide) (by omega) (by omega) (by omega) ?_
  rw [nI]
  have r40 : ∀ j, j < P.1 1 → cpR (cpR (cpR (cpR (cpR (cpR τ 48 40 0 (P.1 1)) 49 41 0 (P.1 1)) 50 42 0 (P.1 1)) 51 43 0 (P.1 2)) 52 44 0 (P.1 2)) 53 45 0 (P.1 3) 40 j = P.2.2 0 j := fun j hj => by
    rw [cp_ne (by decide), cp_ne (by decide), cp_ne (by decide), cp_ne (by decide), cp_ne (by decide), cp_lt hj, ak 48 j (by decide)]; exact (h6 j hj).1
  have r41 : ∀ j, j < P.1 1 → cpR (cpR (cpR (cpR (cpR (cpR τ 48 40 0 (P.1 1)) 49 41 0 (P.1 1)) 50 42 0 (P.1 1)) 51 43 0 (P.1 2)) 52 44 0 (P.1 2)) 53 45 0 (P.1 3) 41 j = P.2.2 1 j := fun j hj => by
    rw [cp_ne (by decide), cp_ne (by decide), cp_ne (by decide), cp_ne (by decide), cp_lt hj, cp_ne (by decide), ak 49 j (by decide)]; exact (h6 j hj).2.1
  have r42 : ∀ j, j < P.1 1 → cpR (cpR (cpR (cpR (cpR (cpR τ 48 40 0 (P.1 1)) 49 41 0 (P.1 1)) 50 42 0 (P.1 1)) 51 43 0 (P.1 2)) 52 44 0 (P.1 2)) 53 45 0 (P.1 3) 42 j = P.2.2 2 j := fun j hj => by
    rw [cp_ne (by decide), cp_ne (by decide), cp_ne (by decide), cp_lt hj, cp_ne (by decide), cp_ne (by decide), ak 50 j (by decide)]; exact (h6 j hj).2.2
  have r43 : ∀ j, j < P.1 2 → cpR (cpR (cpR (cpR (cpR (cpR τ 48 40 0 (P.1 1)) 49 41 0 (P.1 1)) 50 42 0 (P.1 1)) 51 43 0 (P.1 2)) 52 44 0 (P.1 2)) 53 45 0 (P.1 3) 43 j = P.2.2 3 j := fun j hj => by
    rw [cp_ne (by decide), cp_ne (by decide), cp_lt hj, cp_ne (by decide), cp_ne (by decide), cp_ne (by decide), ak 51 j (by decide)]; exact (h7 j hj).1
  have r44 : ∀ j, j < P.1 2 → cpR (cpR (cpR (cpR (cpR (cpR τ 48 40 0 (P.1 1)) 49 41 0 (P.1 1)) 50 42 0 (P.1 1)) 51 43 0 (P.1 2)) 52 44 0 (P.1 2)) 53 45 0 (P.1 3) 44 j = P.2.2 4 j := fun j hj => by
    rw [cp_ne (by decide), cp_lt hj, cp_ne (by decide), cp_ne (by decide), cp_ne (by decide), cp_ne (by decide), ak 52 j (by decide)]; exact (h7 j hj).2
  have r45 : ∀ j, j < P.1 3 → cpR (cpR (cpR (cpR (cpR (cpR τ 48 40 0 (P.1 1)) 49 41 0 (P.1 1)) 50 42 0 (P.1 1)) 51 43 0 (P.1 2)) 52 44 0 (P.1 2)) 53 45 0 (P.1 3) 45 j = P.2.2 5 j := fun j hj => by
    rw [cp_lt hj, cp_ne (by decide), cp_ne (by decide), cp_ne (by decide), cp_ne (by decide), cp_ne (by decide), ak 53 j (by decide)]; exact h8 j hj
  have rk : ∀ k j, (k < 40 ∨ 45 < k) → cpR (cpR (cpR (cpR (cpR (cpR τ 48 40 0 (P.1 1)) 49 41 0 (P.1 1)) 50 42 0 (P.1 1)) 51 43 0 (P.1 2)) 52 44 0 (P.1 2)) 53 45 0 (P.1 3) k j = τ k j := fun k j hk => by
    rw [cp_ne (by omega), cp_ne (by omega), cp_ne (by omega), cp_ne (by omega), cp_ne (by omega), cp_ne (by omega)]
  generalize cpR (cpR (cpR (cpR (cpR (cpR τ 48 40 0 (P.1 1)) 49 41 0 (P.1 1)) 50 42 0 (P.1 1)) 51 43 0 (P.1 2)) 52 44 0 (P.1 2)) 53 45 0 (P.1 3) = τ6 at r40 r41 r42 r43 r44 r45 rk ⊢
  refine s_131l 14 0 (by omega) (fun j hj => absurd hj (Nat.not_lt_zero j)) (fun σ7 g7 z7 => ?_)
  have q6 : σ7 39 6 = Int32.ofNat (P.1 2) := (g7 39 6 (by omega)).trans ((rk 39 6 (by omega)).trans p6)
  rw [q6]
  refine s_130 (na := 5) (nb := 14) rfl rfl (by decide) (by omega) (by omega) (by omega) ?_
  rw [nM]
  have gg : ∀ k j, ¬ k = 46 → (k < 40 ∨ 45 < k) → (s2 (cpR σ7 44 46 0 (P.1 2)) 46 10 ((cpR σ7 44 46 0 (P.1 2)) 39 5)) k j = τ k j := fun k j e1 e2 => by rw [s2_ne _ _ (by omega), cp_ne e1, g7 k j e1, rk k j e2]
  have g4 : ∀ k j, ¬ k = 46 → (s2 (cpR σ7 44 46 0 (P.1 2)) 46 10 ((cpR σ7 44 46 0 (P.1 2)) 39 5)) k j = τ6 k j := fun k j e1 => by rw [s2_ne _ _ (by omega), cp_ne e1, g7 k j e1]
  have g10 : ∀ j, ¬ j = 10 → (s2 (cpR σ7 44 46 0 (P.1 2)) 46 10 ((cpR σ7 44 46 0 (P.1 2)) 39 5)) 46 j = cpR σ7 44 46 0 (P.1 2) 46 j := fun j e1 => s2_ne _ _ (fun z => e1 z.2)
  refine hK _ (fun k j e1 e2 => ?_) ⟨(gg 39 0 (by omega) (by omega)).trans p0, (gg 39 1 (by omega) (by omega)).trans p1, (gg 39 6 (by omega) (by omega)).trans p6, (gg 39 9 (by omega) (by omega)).trans p9, fun j hj => ⟨(g4 40 j (by omega)).trans (r40 j hj), (g4 41 j (by omega)).trans (r41 j hj), (g4 42 j (by omega)).trans (r42 j hj)⟩, fun j hj => (g4 43 j (by omega)).trans (r43 j hj), fun j hj => (g4 45 j (by omega)).trans (r45 j hj)⟩ ?_ ?_ ?_ ?_ (fun j hj => ?_) (fun j hj => ?_)
  · rw [gg k j (by omega) (by omega)]
    by_cases c : k = 39
    · have := e1 c
      rw [c]
      exact a0 j (by omega) (by omega) (by omega) (by omega) (by omega)
    · exact ak k j c
  · rw [s2_self, cp_ne (by decide), g7 39 5 (by decide), rk 39 5 (by omega)]; exact p5
  · rw [g10 11 (by decide), cp_ge (by omega)]; exact z7 11 (by omega)
  · rw [g10 12 (by decide), cp_ge (by omega)]; exact z7 12 (by omega)
  · rw [g10 13 (by decide), cp_ge (by omega)]; exact z7 13 (by omega)
  · rw [g10 j (by omega), cp_lt hj, g7 44 j (by decide)]; exact r44 j hj
  · rw [g10 (5 + j) (by omega), cp_ge (by omega)]; exact z7 (5 + j) (by omega)
/-- the loop of clauses -/
def FM1 (σ σ' : St) : Prop := ∀ k j : Nat, (k = 39 → j = 12 ∨ 33 ≤ j ∧ ¬ j = 34 ∧ ¬ j = 37) → (k < 40 ∨ k = 47 ∨ (53 < k ∧ ¬ k = 62)) → σ' k j = σ k j
theorem MX.neg {σ : St} {T : Nat → Int32} {q : Nat} (h : MX σ T q) : T q < 0 ↔ T q = -1 := by
  have l0 : (0 : Int32).toInt = 0 := rfl
  rcases h.end with ⟨-, c⟩ | ⟨-, -, c, -⟩
  · rw [c]; decide
  · rw [Int32.lt_iff_toInt_lt, l0]
    refine ⟨fun z => by omega, fun z => ?_⟩
    rw [z] at c
    exact absurd c (by decide)
theorem s_132l {T : Nat → Int32} {K : Int32 → St → Prop} : ∀ (d : Nat) {σ : St} {q c : Nat} {P : PS}, c + d = 241 → c ≤ q → MX σ T q → MR σ P →
    ((su T d P q).1 = 0 → ∀ σ', FM1 σ σ' → MPl σ' (su T d P q).2.2 → MS σ' (su T d P q).2.2 → σ' 39 15 = σ 39 15 → σ' 39 14 = 0 → K (Int32.ofNat ((su T d P q).2.2.1 1)) σ') →
    (¬ (su T d P q).1 = 0 → (su T d P q).1 ≤ 4 → ∀ σ', (∀ k j, (k = 39 → j < 14 ∨ 28 < j) → (k < 48 ∨ 53 < k) → σ' k j = σ k j) → σ' 39 15 = Int32.ofNat (su T d P q).2.1 → σ' 39 14 = 0 → K ((-10) - Int32.ofNat (su T d P q).1) σ') →
    PI 132 37 [some (.ref 39), some (.int 0)] [] σ K := by
  intro d
  induction d with
  | zero => intro σ q c P hc hq hX hR ok no; have := hX.2.1; omega
  | succ d ih =>
    intro σ q c P hc hq hX hR ok no
    refine w_132_37 ?_
    rw [if_pos rfl]
    refine s_118c hX fun σ1 f1 x1 => ?_
    have R1 := hR.fr f1.n
    unfold su at ok no
    by_cases ce : T (sk T q) = -1
    · rw [if_pos ce] at ok
      rw [if_pos (x1.neg.mpr ce), if_pos (by decide)]
      have R2 : MR (s2 σ1 39 14 0) P := R1.ex (fun j hj => s2_ne _ _ (by omega)) (fun k j h1 h2 => s2_ne _ _ (by omega))
      refine s_131 R2 fun σ3 f3 m3 a1 a2 a3 a4 a5 a6 => ?_
      rw [m3.2.1]
      refine ok rfl _ (fun k j h1 h2 => ?_) m3 ⟨a1, a2, a3, a4, a5, a6, rfl, rfl, rfl, rfl, rfl⟩ ?_ ?_
      · rw [s2_ne _ _ (by omega), s2_ne _ _ (by omega), s2_ne _ _ (by omega), s2_ne _ _ (by omega), s2_ne _ _ (by omega)]
        by_cases ck : k = 39
        · have := h1 ck
          rw [f3 k j (by omega) (by omega), s2_ne _ _ (by omega)]; exact f1 k j (by omega)
        · rw [f3 k j (by omega) (by omega), s2_ne _ _ (by omega)]; exact f1 k j (by omega)
      · exact (f3 39 15 (by omega) (by omega)).trans (f1 39 15 (by omega))
      · exact f3 39 14 (by omega) (by omega)
    · rw [if_neg ce] at ok no
      rw [if_neg (fun z => ce (x1.neg.mp z))]
      refine s_129 x1 R1 ce (sk_sk hX.ht) fun v σ2 f2 h2 => ?_
      rcases h2 with ⟨e0, rfl, x2, m2, w2⟩ | ⟨e0, e4, rfl, w2⟩
      · rw [if_pos e0] at ok no
        have hp := cl_pos e0
        have hsk := sk_ge T q
        refine ih (c := c + 1) (by omega) (by omega) x2 m2 (fun o1 σ3 f3 b1 b2 b3 b4 => ok o1 σ3 (fun k j h1 h2 => ?_) b1 b2 (b3.trans (w2.trans (f1 39 15 (by omega)))) b4) (fun o1 o2 σ3 f3 b3 b4 => no o1 o2 σ3 (fun k j h1 h2 => ?_) b3 b4)
        · rw [f3 k j h1 h2, f2 k j (fun e => by have := h1 e; omega) (by omega)]; exact f1 k j (by omega)
        · rw [f3 k j h1 h2, f2 k j (fun e => by have := h1 e; omega) h2]; exact f1 k j (fun z => by have := h1 z.1; omega)
      · rw [if_neg e0] at no
        have fp := f_pos e4 e0
        refine w_132_37 ?_
        rw [if_neg fp.2, if_neg fp.1]
        refine no e0 e4 _ (fun k j h1 h2 => ?_) w2 rfl
        rw [s2_ne _ _ (fun z => by have := h1 z.1; omega), f2 k j (fun e => by have := h1 e; omega) h2]
        exact f1 k j (fun z => by have := h1 z.1; omega)
theorem s_132 {σ : St} {T : Nat → Int32} {K : Int32 → St → Prop} (hT : TM σ T)
    (ok : (pz T).1 = 0 → ∀ σ', FM1 σ σ' → MPl σ' (pz T).2.2 → MS σ' (pz T).2.2 → σ' 39 15 = -1 → σ' 39 14 = 0 → K (Int32.ofNat ((pz T).2.2.1 1)) σ')
    (no : ¬ (pz T).1 = 0 → (pz T).1 ≤ 4 → ∀ σ', (∀ k j, (k = 39 → j < 14 ∨ 28 < j) → (k < 48 ∨ 53 < k) → σ' k j = σ k j) → σ' 39 15 = Int32.ofNat (pz T).2.1 → σ' 39 14 = 0 → K ((-10) - Int32.ofNat (pz T).1) σ') : CI 132 [.ref 39] σ K := by
  obtain ⟨n, hn, hl, h1, hTe⟩ := hT
  refine w_132 ?_
  have X0 : MX (s2 (s2 (s2 (s2 (s2 (s2 (s2 σ 39 15 (-1)) 39 16 0) 39 19 0) 39 20 0) 39 24 0) 39 25 0) 39 28 0) T 0 := ⟨rfl, Nat.zero_le _, n, hn, hl, h1, hTe⟩
  have R0 : MR (s2 (s2 (s2 (s2 (s2 (s2 (s2 σ 39 15 (-1)) 39 16 0) 39 19 0) 39 20 0) 39 24 0) 39 25 0) 39 28 0) P0 := ⟨P0_b, rfl, rfl, rfl, rfl, rfl, fun j hj => absurd hj (Nat.not_lt_zero j), fun j hj => absurd hj (Nat.not_lt_zero j), fun j hj => absurd hj (Nat.not_lt_zero j)⟩
  have F0 : ∀ k j, (k = 39 → j < 15 ∨ 28 < j) → (s2 (s2 (s2 (s2 (s2 (s2 (s2 σ 39 15 (-1)) 39 16 0) 39 19 0) 39 20 0) 39 24 0) 39 25 0) 39 28 0) k j = σ k j := fun k j h => by
    have a3 : ∀ i, 15 ≤ i → i ≤ 28 → ¬ (k = 39 ∧ j = i) := fun i b1 b2 z => by have := h z.1; omega
    rw [s2_ne _ _ (a3 28 (by omega) (by omega)), s2_ne _ _ (a3 25 (by omega) (by omega)), s2_ne _ _ (a3 24 (by omega) (by omega)), s2_ne _ _ (a3 20 (by omega) (by omega)), s2_ne _ _ (a3 19 (by omega) (by omega)), s2_ne _ _ (a3 16 (by omega) (by omega)), s2_ne _ _ (a3 15 (by omega) (by omega))]
  have w0 : (s2 (s2 (s2 (s2 (s2 (s2 (s2 σ 39 15 (-1)) 39 16 0) 39 19 0) 39 20 0) 39 24 0) 39 25 0) 39 28 0) 39 15 = -1 := rfl
  generalize s2 (s2 (s2 (s2 (s2 (s2 (s2 σ 39 15 (-1)) 39 16 0) 39 19 0) 39 20 0) 39 24 0) 39 25 0) 39 28 0 = τ at X0 R0 F0 w0 ⊢
  refine s_132l (c := 0) 241 (by omega) (Nat.zero_le _) X0 R0 (fun o1 σ3 f3 b1 b2 b3 b4 => ok o1 σ3 (fun k j h1 h2 => ?_) b1 b2 (b3.trans w0) b4) (fun o1 o2 σ3 f3 b3 b4 => no o1 o2 σ3 (fun k j h1 h2 => ?_) b3 b4)
  · rw [f3 k j h1 h2]; exact F0 k j (fun e => by have := h1 e; omega)
  · rw [f3 k j h1 h2]; exact F0 k j (fun e => by have := h1 e; omega)
