/-! bits, the order of lines, the book's rows: with the state -/
def BP (P : PS) (σ : St) : Prop := PQd P ∧ LKd (P.1 1) (P.2.2 2) (σ 15) ∧ BG (P.1 1) (P.1 2) (cls σ) ∧ (∃ x n, σ 24 1 = Int32.ofNat x ∧ x < 16 ∧ σ 24 2 = Int32.ofNat n ∧ n ≤ 16 ∧ ∀ k, k < n → BG (P.1 1) (P.1 2) (fun c => σ 23 (15 * ((x + 15 - k) % 16) + c))) ∧ ∀ i, i < 2 → ¬ σ 62 i = 0 → BG (P.1 1) (P.1 2) (fun c => σ 26 (15 * i + c))
def BX (σ : St) : Prop := ∃ P, XP σ P ∧ BP P σ
def BKr (σ : St) : Prop := (∀ j, j < (σ 29 0).toNatClampNeg → σ 30 j = σ 57 j ∧ σ 31 j = σ 58 j ∧ inR (σ 11 0).toNatClampNeg (σ 30 j) ∧ inR (σ 11 0).toNatClampNeg (σ 31 j)) ∧ ∀ j, j < (σ 29 1).toNatClampNeg → σ 32 j = σ 59 j ∧ σ 33 j = σ 60 j ∧ inR (σ 11 2).toNatClampNeg (σ 32 j)
def J3 (σ : St) : Prop := J2 D1 σ ∧ BX σ ∧ BKr σ
abbrev SXp (k j : Nat) : Prop := (11 ≤ k ∧ k ≤ 18) ∨ (k = 19 ∧ ¬ j = 4) ∨ k = 20 ∨ k = 23 ∨ k = 24 ∨ k = 26 ∨ k = 62
abbrev SKp (k : Nat) : Prop := k = 11 ∨ (29 ≤ k ∧ k ≤ 33) ∨ (57 ≤ k ∧ k ≤ 60)
theorem XP_un {σ : St} {P Q : PS} (h : XP σ P) (g : XP σ Q) : P.1 1 = Q.1 1 ∧ P.1 2 = Q.1 2 ∧ ∀ l, l < P.1 1 → P.2.2 2 l = Q.2.2 2 l := by
  have a1 := h.1.2.1
  have a2 := g.1.2.1
  have a3 := h.1.2.2.1
  have a4 := g.1.2.2.1
  have e1 : P.1 1 = Q.1 1 := of_inj (by omega) (by omega) (h.2.2.1.symm.trans g.2.2.1)
  have e2 : P.1 2 = Q.1 2 := of_inj (by omega) (by omega) (h.2.2.2.1.symm.trans g.2.2.2.1)
  exact ⟨e1, e2, fun l hl => (h.2.2.2.2.2.1 l hl).2.2.symm.trans (g.2.2.2.2.2.1 l (by omega)).2.2⟩
theorem BP_un {σ : St} {P Q : PS} (h : XP σ P) (g : XP σ Q) (b : BP Q σ) : BP P σ := by
  obtain ⟨e1, e2, e3⟩ := XP_un h g
  obtain ⟨b1, ⟨f, b2, b2'⟩, b3, b4, b5⟩ := b
  rw [← e1, ← e2] at b3 b4 b5
  rw [← e1] at b2 b2'
  exact ⟨fun l hl => by rw [e3 l hl]; exact b1 l (by omega), ⟨f, LKp_cg (fun l hl => e3 l hl) b2, b2'⟩, b3, b4, b5⟩
theorem BP_ex {P : PS} {σ σ' : St} (h5 : P.1 2 ≤ 5) (e : ∀ k j, SXp k j → σ' k j = σ k j) (b : BP P σ) : BP P σ' := by
  obtain ⟨b1, b2, b3, ⟨x, n, q1, q2, q3, q4, q5⟩, b5⟩ := b
  have e15 : σ' 15 = σ 15 := funext fun j => e 15 j (by unfold SXp; omega)
  refine ⟨b1, by rw [e15]; exact b2, BG_cg b3 h5 fun c hc => ?_, ⟨x, n, by rw [e 24 1 (by unfold SXp; omega)]; exact q1, q2, by rw [e 24 2 (by unfold SXp; omega)]; exact q3, q4, fun k hk => BG_cg (q5 k hk) h5 fun c _ => e 23 _ (by unfold SXp; omega)⟩, fun i hi h0 => BG_cg (b5 i hi (by rw [e 62 i (by unfold SXp; omega)] at h0; exact h0)) h5 fun c _ => e 26 _ (by unfold SXp; omega)⟩
  unfold cls
  split
  · exact e 19 _ (by unfold SXp; omega)
  · split
    · exact e 20 _ (by unfold SXp; omega)
    · omega
theorem BX_ex {σ σ' : St} (e : ∀ k j, SXp k j → σ' k j = σ k j) (b : BX σ) : BX σ' := by
  obtain ⟨P, hx, b⟩ := b
  exact ⟨P, XP_ex (fun k j hk => e k j (by unfold SXp; omega)) hx, BP_ex hx.1.2.2.1 e b⟩
theorem BK_ex {σ σ' : St} (e : ∀ k j, SKp k → σ' k j = σ k j) (b : BKr σ) : BKr σ' := by
  refine ⟨fun j hj => ?_, fun j hj => ?_⟩
  · rw [e 29 0 (by unfold SKp; omega)] at hj
    rw [e 30 j (by unfold SKp; omega), e 31 j (by unfold SKp; omega), e 57 j (by unfold SKp; omega), e 58 j (by unfold SKp; omega), e 11 0 (by unfold SKp; omega)]
    exact b.1 j hj
  · rw [e 29 1 (by unfold SKp; omega)] at hj
    rw [e 32 j (by unfold SKp; omega), e 33 j (by unfold SKp; omega), e 59 j (by unfold SKp; omega), e 60 j (by unfold SKp; omega), e 11 2 (by unfold SKp; omega)]
    exact b.2 j hj
def okX (md : List (Nat × Nat)) (am : List Nat) : Bool := md.all (fun q => decide (¬ SXp q.1 q.2)) && am.all (fun a => decide (¬ ((11 ≤ a ∧ a ≤ 20) ∨ a = 23 ∨ a = 24 ∨ a = 26 ∨ a = 62)))
def okK (md : List (Nat × Nat)) (am : List Nat) : Bool := md.all (fun q => decide (¬ SKp q.1)) && am.all (fun a => decide (¬ SKp a))
theorem okX_ok {md : List (Nat × Nat)} {am : List Nat} (h : okX md am = true) {σ σ' : St} (f : FrM md am σ σ') : ∀ k j, SXp k j → σ' k j = σ k j := by
  unfold okX at h
  rw [Bool.and_eq_true] at h
  intro k j hs
  refine fr_k f (fun q hq z => ?_) (fun a ha z => ?_)
  · have := of_decide_eq_true (List.all_eq_true.mp h.1 q hq)
    rw [z.1, z.2] at this
    exact this hs
  · have := of_decide_eq_true (List.all_eq_true.mp h.2 a ha)
    rw [z] at this
    unfold SXp at hs
    omega
theorem okK_ok {md : List (Nat × Nat)} {am : List Nat} (h : okK md am = true) {σ σ' : St} (f : FrM md am σ σ') : ∀ k j, SKp k → σ' k j = σ k j := by
  unfold okK at h
  rw [Bool.and_eq_true] at h
  intro k j hs
  refine fr_k f (fun q hq z => ?_) (fun a ha z => ?_)
  · have := of_decide_eq_true (List.all_eq_true.mp h.1 q hq)
    rw [z.1] at this
    exact this hs
  · have := of_decide_eq_true (List.all_eq_true.mp h.2 a ha)
    rw [z] at this
    exact this hs
/-- all that is shared, of one plan -/
theorem J3.b {σ : St} (h : J3 σ) : ∃ P x n, XP σ P ∧ MPl σ P ∧ UNx (D1 (P.1 2)) σ x n ∧ (∀ c, D1 (P.1 2) c → cls σ c = σ 46 (mu c)) ∧ IMx (D1 (P.1 2)) σ ∧ σ 19 4 = σ 39 12 ∧ B2 σ (P.1 2) (P.1 1) x n ∧ C2 σ (P.1 2) (P.1 1) n ∧ BP P σ := by
  obtain ⟨P, x, n, hx, hm, hu, hN, hi, hs, hb, hc⟩ := h.1.b
  obtain ⟨Q, gx, gb⟩ := h.2.1
  exact ⟨P, x, n, hx, hm, hu, hN, hi, hs, hb, hc, BP_un hx gx gb⟩
/-- remembered: the bits stay -/
theorem BX_rem {P : PS} {x n : Nat} {σ σ' : St} (hx : XP σ P) (hB : BP P σ) (h16 : x < 16) (hn : n ≤ 16) (e1 : σ 24 1 = Int32.ofNat x) (e2 : σ 24 2 = Int32.ofNat n) (r : RC x n σ σ') (f : ∀ k j, (11 ≤ k ∧ k ≤ 18) ∨ k = 26 ∨ k = 62 → σ' k j = σ k j) (g : BG (P.1 1) (P.1 2) (cls σ')) : BX σ' := by
  obtain ⟨b1, b2, b3, ⟨x0, n0, q1, q2, q3, q4, q5⟩, b5⟩ := hB
  have h5 := hx.1.2.2.1
  have ex : x0 = x := of_inj (by omega) (by omega) (q1.symm.trans e1)
  have en : n0 = n := of_inj (by omega) (by omega) (q3.symm.trans e2)
  subst ex
  subst en
  have e15 : σ' 15 = σ 15 := funext fun j => f 15 j (by omega)
  refine ⟨P, XP_ex (fun k j hk => f k j (by omega)) hx, b1, by rw [e15]; exact b2, g, ⟨(x0 + 1) % 16, min 16 (n0 + 1), r.1, Nat.mod_lt _ (by decide), r.2.1, Nat.min_le_left _ _, fun k hk => ?_⟩, fun i hi h0 => ?_⟩
  · by_cases k0 : k = 0
    · have e : ((x0 + 1) % 16 + 15 - k) % 16 = x0 := by omega
      rw [e]
      refine BG_cg b3 h5 fun c hc => ?_
      show σ' 23 (15 * x0 + c) = cls σ c
      rw [r.2.2, if_pos (by omega)]
      congr 1
      omega
    · have e : ((x0 + 1) % 16 + 15 - k) % 16 = (x0 + 15 - (k - 1)) % 16 := by omega
      have ne : (x0 + 15 - (k - 1)) % 16 ≠ x0 := by omega
      have lt : (x0 + 15 - (k - 1)) % 16 < 16 := Nat.mod_lt _ (by decide)
      have h1 := q5 (k - 1) (by omega)
      rw [e]
      generalize (x0 + 15 - (k - 1)) % 16 = s at ne lt h1 ⊢
      refine BG_cg h1 h5 fun c hc => ?_
      show σ' 23 (15 * s + c) = σ 23 (15 * s + c)
      rw [r.2.2, if_neg (by omega)]
  · rw [f 62 i (by omega)] at h0
    exact BG_cg (b5 i hi h0) h5 fun c _ => f 26 _ (by omega)
theorem b_wb {x c : Int32} {k i : Nat} (hk : k < 32) (h : ¬ i = k) : bt (wb x (Int32.ofNat k) c) i = bt x i := by
  unfold wb
  split
  · rw [b_del hk, decide_eq_false h, Bool.not_false, Bool.and_true]
  · rw [b_or, b_one hk, decide_eq_false h, Bool.or_false]
theorem bx_draw {σ : St} {a b c : Int32} (hJ : J3 σ) : CI 60 [.ref 0, .int a, .int b, .int c] σ (fun _ σ' => BX σ') := by
  obtain ⟨P, x, n, hx, hm, hu, hN, hi, hs, hb, hc, hB⟩ := hJ.b
  have h5 := hb.1
  have h12 := hb.2.1
  refine (s_60 hb).imp fun v σ' z => ?_
  rcases z with ⟨-, -, rfl⟩ | ⟨ok, rc, -, f1, r1⟩
  · exact hJ.2.1
  · obtain ⟨ka, hka, -, ea⟩ := inR_n ok.1
    obtain ⟨kb, hkb, eb, -⟩ := inR_n ok.2
    rw [ea, eb] at r1
    refine BX_rem hx hB hb.2.2.1 hb.2.2.2.1 hb.2.2.2.2.2.2.2.1 hb.2.2.2.2.2.2.2.2 rc (fun k j hk => f1 k j (by omega) (by omega) (by omega)) ⟨fun i hi => ?_, fun m hm i hi => ?_, ?_⟩
    · rw [show cls σ' 0 = σ' 19 0 from rfl, f1 19 0 (by omega) (by omega) (by omega)]
      exact hB.2.2.1.1 i hi
    · have q := hB.2.2.1.2.1 m hm i hi
      rw [cls5 (by omega)] at q ⊢
      rw [r1]
      split
      · rename_i e
        rw [e] at q
        rw [b_wb (by omega) (by omega)]
        exact q
      · exact q
    · rw [show cls σ' 3 = σ' 19 3 from rfl, f1 19 3 (by omega) (by omega) (by omega)]
      exact hB.2.2.1.2.2
theorem bx_move {σ : St} {a b : Int32} (hJ : J3 σ) : CI 61 [.ref 0, .int a, .int b] σ (fun _ σ' => BX σ') := by
  obtain ⟨P, x, n, hx, hm, hu, hN, hi, hs, hb, hc, hB⟩ := hJ.b
  have h5 := hb.1
  have h12 := hb.2.1
  refine (s_61 hb).imp fun v σ' z => ?_
  rcases z with ⟨-, -, rfl⟩ | ⟨ok, rc, -, f1, r1⟩
  · exact hJ.2.1
  · obtain ⟨ka, hka, ea, -⟩ := inR_n ok
    rw [ea] at r1
    refine BX_rem hx hB hb.2.2.1 hb.2.2.2.1 hb.2.2.2.2.2.2.2.1 hb.2.2.2.2.2.2.2.2 rc (fun k j hk => f1 k j (by omega) (by omega) (by omega)) ⟨fun i hi => ?_, fun m hm i hi => ?_, ?_⟩
    · rw [show cls σ' 0 = σ' 19 0 from rfl, r1, b_wb (by omega) (by omega)]
      exact hB.2.2.1.1 i hi
    · have q := hB.2.2.1.2.1 m hm i hi
      rw [cls5 (by omega)] at q ⊢
      rw [f1 20 m (by omega) (by omega) (by omega)]
      exact q
    · rw [show cls σ' 3 = σ' 19 3 from rfl, f1 19 3 (by omega) (by omega) (by omega)]
      exact hB.2.2.1.2.2
theorem bx_copy {σ : St} {a b : Int32} (hJ : J3 σ) : CI 62 [.ref 0, .int a, .int b] σ (fun _ σ' => BX σ') := by
  obtain ⟨P, x, n, hx, hm, hu, hN, hi, hs, hb, hc, hB⟩ := hJ.b
  have h5 := hb.1
  have h12 := hb.2.1
  refine (s_62 hb).imp fun v σ' z => ?_
  rcases z with ⟨-, -, rfl⟩ | ⟨ok, rc, -, f1, r1⟩
  · exact hJ.2.1
  · obtain ⟨ka, hka, -, ea⟩ := inR_n ok.1
    obtain ⟨kb, hkb, -, eb⟩ := inR_n ok.2.1
    rw [ea, eb] at r1
    refine BX_rem hx hB hb.2.2.1 hb.2.2.2.1 hb.2.2.2.2.2.2.2.1 hb.2.2.2.2.2.2.2.2 rc (fun k j hk => f1 k j (by omega) (by omega) (by omega)) ⟨fun i hi => ?_, fun m hm i hi => ?_, ?_⟩
    · rw [show cls σ' 0 = σ' 19 0 from rfl, f1 19 0 (by omega) (by omega) (by omega)]
      exact hB.2.2.1.1 i hi
    · have q := hB.2.2.1.2.1 m hm i hi
      have qb := hB.2.2.1.2.1 kb hkb i hi
      rw [cls5 (by omega)] at q qb ⊢
      rw [r1]
      split
      · exact qb
      · exact q
    · rw [show cls σ' 3 = σ' 19 3 from rfl, f1 19 3 (by omega) (by omega) (by omega)]
      exact hB.2.2.1.2.2
theorem bx_undo {σ : St} (hJ : J3 σ) : CI 68 [.ref 0] σ (fun _ σ' => BX σ') := by
  obtain ⟨P, x, n, hx, hm, hu, hN, hi, hs, hb, hc, hB⟩ := hJ.b
  have h5 := hb.1
  refine s_68 hb.2.2.2.2.2.2.1 hb.2.2.1 hb.2.2.2.1 hb.2.2.2.2.2.2.2.1 hb.2.2.2.2.2.2.2.2 (fun _ => hJ.2.1) (fun n0 σ' f g1 g2 r _ => ?_)
  obtain ⟨b1, b2, b3, ⟨x0, n0', q1, q2, q3, q4, q5⟩, b5⟩ := hB
  have ex : x0 = x := of_inj (by omega) (by have := hb.2.2.1; omega) (q1.symm.trans hb.2.2.2.2.2.2.2.1)
  have en : n0' = n := of_inj (by omega) (by have := hb.2.2.2.1; omega) (q3.symm.trans hb.2.2.2.2.2.2.2.2)
  subst ex
  subst en
  have e15 : σ' 15 = σ 15 := funext fun j => f 15 j (by omega) (by omega) (by omega) (by omega)
  refine ⟨P, XP_ex (fun k j hk => f k j (by omega) (by omega) (by omega) (by omega)) hx, b1, by rw [e15]; exact b2, ?_, ⟨(x0 + 15) % 16, n0' - 1, g1, Nat.mod_lt _ (by decide), g2, by omega, fun k hk => ?_⟩, fun i hi h0 => ?_⟩
  · have h1 := q5 0 (by omega)
    rw [Nat.sub_zero] at h1
    exact BG_cg h1 h5 fun c hc => r c (by omega) (by omega)
  · have h1 := q5 (k + 1) (by omega)
    have e : ((x0 + 15) % 16 + 15 - k) % 16 = (x0 + 15 - (k + 1)) % 16 := by omega
    rw [e]
    exact BG_cg h1 h5 fun c hc => f 23 _ (by omega) (by omega) (by omega) (by omega)
  · rw [f 62 i (by omega) (by omega) (by omega) (by omega)] at h0
    exact BG_cg (b5 i hi h0) h5 fun c _ => f 26 _ (by omega) (by omega) (by omega) (by omega)
/-! deeds over all of the state -/
theorem Vm1_of {M : Nat} {σ σ1 : St} (hN : ∀ c, D1 M c → cls σ c = σ 46 (mu c)) (hs : σ 19 4 = σ 39 12) (e : ∀ k j, 39 ≤ k → σ1 k j = σ k j) : Vm1 M σ1 (cls σ) := fun c hc => by
  unfold rcl
  by_cases c4 : c = 4
  · rw [if_pos c4, e 39 12 (by omega), ← hs, c4]; rfl
  · rw [if_neg c4, e 46 _ (by omega)]
    exact (hN c ⟨hc.1, c4, hc.2.1, hc.2.2⟩).symm
theorem ag_op1 {y1 y2 : Nat} {vs1 vs2 : List Value} {σ : St} (hJ : J3 σ) (j1 : CI y1 vs1 σ (fun _ σ' => J σ')) (j2 : ∀ σ1, J σ1 → CI y2 vs2 σ1 (fun _ σ' => J σ'))
    (S : ∀ P x n, XP σ P → MPl σ P → B2 σ (P.1 2) (P.1 1) x n → C2 σ (P.1 2) (P.1 1) n → (∀ σ1, (∀ k j, 39 ≤ k → σ1 k j = σ k j) → Vm1 (P.1 2) σ1 (cls σ)) → BP P σ → ∃ (p : Prop) (V : Nat → Int32) (rv : Int32), (p → BG (P.1 1) (P.1 2) V) ∧ CI y1 vs1 σ (fun v σ' => v = rv ∧ ((¬ p ∧ ∀ k j, ¬ k = 28 → σ' k j = σ k j) ∨ (p ∧ RC x n σ σ' ∧ (∀ k j, ¬ (19 ≤ k ∧ k ≤ 21) → ¬ k = 23 → ¬ k = 24 → ¬ k = 28 → σ' k j = σ k j) ∧ cls σ' = V))) ∧ ∀ σ1, J σ1 → (∀ k j, 39 ≤ k → σ1 k j = σ k j) → CI y2 vs2 σ1 (fun v σ' => v = rv ∧ ((¬ p ∧ ∀ k j, ¬ k = 54 → ¬ k = 55 → σ' k j = σ1 k j) ∨ (p ∧ RMm n σ1 σ' ∧ (∀ k j, ¬ k = 46 → ¬ k = 56 → ¬ k = 54 → ¬ k = 55 → ¬ (k = 39 ∧ (j = 32 ∨ j = 12)) → σ' k j = σ1 k j) ∧ Vm1 (P.1 2) σ' V)))) :
    CI y1 vs1 σ (fun v1 σ1 => CI y2 vs2 σ1 (fun v2 σ2 => v2 = v1 ∧ J2 D1 σ2 ∧ BX σ2)) := by
  obtain ⟨P, x, n, hx, hm, hu, hN, hi, hs, hb, hc, hB⟩ := hJ.b
  obtain ⟨p, V, rv, S0, S1, S2⟩ := S P x n hx hm hb hc (fun σ1 e => Vm1_of hN hs e) hB
  refine (j1.and S1).imp fun v1 σ1 ⟨J1, ev1, z1⟩ => ?_
  have e39 : ∀ k j, 39 ≤ k → σ1 k j = σ k j := fun k j hk => by
    rcases z1 with ⟨-, f⟩ | ⟨-, -, f, -⟩
    · exact f k j (by omega)
    · exact f k j (by omega) (by omega) (by omega) (by omega)
  refine ((j2 _ J1).and (S2 σ1 J1 e39)).imp fun v2 σ2 ⟨J2', ev2, z2⟩ => ⟨ev2.trans ev1.symm, ?_⟩
  rcases z1 with ⟨no, f1⟩ | ⟨ok, rc, f1, c1⟩
  · rcases z2 with ⟨-, f2⟩ | ⟨ok, -⟩
    · refine ⟨J2_ex hJ.1 J2' (fun k j hk => (f2 k j (by unfold S2p at hk; omega) (by unfold S2p at hk; omega)).trans (f1 k j (by unfold S2p at hk; omega))), BX_ex (fun k j hk => (f2 k j (by unfold SXp at hk; omega) (by unfold SXp at hk; omega)).trans (f1 k j (by unfold SXp at hk; omega))) hJ.2.1⟩
    · exact absurd ok no
  · rcases z2 with ⟨no, -⟩ | ⟨-, rm, f2, V2⟩
    · exact absurd ok no
    · have rc2 : RC x n σ σ2 := RC_ex rc (fun j => f2 23 j (by omega) (by omega) (by omega) (by omega) (by omega)) (fun j => f2 24 j (by omega) (by omega) (by omega) (by omega) (by omega))
      have c2 : cls σ2 = V := (cls_fx (fun k j h1 h2 => f2 k j (by omega) (by omega) (by omega) (by omega) (by omega))).trans c1
      have fr : ∀ k j, (11 ≤ k ∧ k ≤ 18) ∨ (k = 39 ∧ (j = 0 ∨ j = 1 ∨ j = 6 ∨ j = 9)) ∨ (40 ≤ k ∧ k ≤ 45) ∨ k = 26 ∨ k = 61 ∨ k = 62 → σ2 k j = σ k j := fun k j hk => (f2 k j (by omega) (by omega) (by omega) (by omega) (by omega)).trans (f1 k j (by omega) (by omega) (by omega) (by omega))
      refine ⟨J2_rem HD1 hx hm hu hN hi J2' rc2 (RM_ex rm (fun j => e39 46 j (by omega)) (fun j => e39 56 j (by omega))) fr (fun c hc => ?_) ?_, BX_rem hx hB hb.2.2.1 hb.2.2.2.1 hb.2.2.2.2.2.2.2.1 hb.2.2.2.2.2.2.2.2 rc2 (fun k j hk => fr k j (by omega)) (by rw [c2]; exact S0 ok)⟩
      · have := V2 c ⟨hc.1, hc.2.2.1, hc.2.2.2⟩
        unfold rcl at this
        rw [if_neg hc.2.1] at this
        rw [this, c2]
      · rw [show σ2 19 4 = cls σ2 4 from rfl, c2, V2.c.2.2.2.2]
/-- assess -/
theorem ag_assess1 {σ : St} {a : Int32} (hJ : J3 σ) (j1 : CI 63 [.ref 0, .int a] σ (fun _ σ' => J σ')) (j2 : ∀ σ1, J σ1 → CI 157 [.ref 39, .int a] σ1 (fun _ σ' => J σ')) : CI 63 [.ref 0, .int a] σ (fun v1 σ1 => CI 157 [.ref 39, .int a] σ1 (fun v2 σ2 => v2 = v1 ∧ J2 D1 σ2 ∧ BX σ2)) := by
  refine ag_op1 hJ j1 j2 fun P x n hx hm hb hc hV hB => ?_
  have h5 := hb.1
  refine ⟨inR (P.1 2) a, vu (vu (cls σ) (10 + a.toNatClampNeg) 0) 2 (if cls σ 2 + (cls σ (10 + a.toNatClampNeg) + dty P (P.2.2 3 a.toNatClampNeg) (cls σ (5 + a.toNatClampNeg)) (cls σ 0)) < 999999 then cls σ 2 + (cls σ (10 + a.toNatClampNeg) + dty P (P.2.2 3 a.toNatClampNeg) (cls σ (5 + a.toNatClampNeg)) (cls σ 0)) else 999999), if inR (P.1 2) a then cls σ (10 + a.toNatClampNeg) + dty P (P.2.2 3 a.toNatClampNeg) (cls σ (5 + a.toNatClampNeg)) (cls σ 0) else -1000000001, fun _ => BG_cg hB.2.2.1 h5 (fun c hc => by rw [vu_n (by omega), vu_n (by omega)]), ?_, fun σ1 J1 e39 => ?_⟩
  · refine w_63 (s_86 hb.2.2.2.2.1 h5 (ite10 (fun c => ?_) (fun c => ⟨by rw [if_neg c], Or.inl ⟨c, fun _ _ _ => rfl⟩⟩)))
    refine s_9I hJ.1.1.1 hb fun σ1 I1 r1 f1 => ⟨by unfold inR at c; omega, ?_⟩
    rw [if_pos c]
    obtain ⟨k, hk, rfl, ea⟩ := inR_n c
    rw [ea]
    have c1 : cls σ1 = cls σ := cls_fx fun k j h1 h2 => f1 k j (by omega) (by omega)
    refine s_95 (XP_ex (fun k j hk => f1 k j (by omega) (by omega)) hx) hk ?_
    have d1 : σ1 21 k = cls σ (10 + k) := by rw [← c1, cls10]
    have d2 : σ1 20 k = cls σ (5 + k) := by rw [← c1, cls5 (by omega)]
    have d3 : σ1 19 0 = cls σ 0 := by rw [← c1]; rfl
    have d4 : σ1 19 2 = cls σ 2 := by rw [← c1]; rfl
    rw [d1, d2, d3, d4]
    refine ⟨rfl, Or.inr ⟨c, RC_ex r1 (fun j => by rw [s2_ne _ _ (by omega), s2_ne _ _ (by omega)]) (fun j => by rw [s2_ne _ _ (by omega), s2_ne _ _ (by omega)]), fun k' j h1 h2 h3 h4 => ?_, ?_⟩⟩
    · rw [s2_ne _ _ (by omega), s2_ne _ _ (by omega)]; exact f1 k' j h2 (by omega)
    · rw [cls_19 (by omega), cls_21, c1]
  · have hc1 := C2_39 hc e39
    have hm1 := MPl_ex (fun k j hk => e39 k j (by omega)) hm
    have l5 : (5 : Int32).toInt = 5 := rfl
    refine w_157 (s_115 hc1.2.2.2.1 h5 (ite10 (fun c => ?_) (fun c => ⟨by rw [if_neg c], Or.inl ⟨c, fun _ _ _ _ => rfl⟩⟩)))
    refine s_153I J1.1 hc1 fun σ2 I2 r2 f2 => ?_
    rw [if_pos c]
    obtain ⟨k, hk, rfl, ea⟩ := inR_n c
    have e5 : (5 + Int32.ofNat k).toInt = 5 + (k : Int) := by rw [ti_add (by rw [ti_of (by omega), l5]; omega) (by rw [ti_of (by omega), l5]; omega), ti_of (by omega), l5]
    have c5 : (5 + Int32.ofNat k).toNatClampNeg = 5 + k := by rw [tc_ti, e5]; omega
    have V2 : Vm1 (P.1 2) σ2 (cls σ) := (hV σ1 e39).ex (fun j => f2 46 j (by omega) (by omega)) (f2 39 12 (by omega) (by omega))
    refine ⟨by rw [e5]; omega, ?_⟩
    refine s_136 hx.1 (MPl_ex (fun k j hk => f2 k j (by omega) (by omega)) hm1) hB.1 hk ?_
    rw [c5, ea, V2.s h5 hk, V2.c.1, V2.o h5 hk]
    have d11 : (s2 σ2 46 (5 + k) 0) 46 11 = cls σ 2 := (s2_ne _ _ (by omega)).trans V2.c.2.2.1
    rw [d11]
    have go : ∀ w, w = (if cls σ 2 + (cls σ (10 + k) + dty P (P.2.2 3 k) (cls σ (5 + k)) (cls σ 0)) < 999999 then cls σ 2 + (cls σ (10 + k) + dty P (P.2.2 3 k) (cls σ (5 + k)) (cls σ 0)) else 999999) → (inR (P.1 2) (Int32.ofNat k) ∧ RMm n σ1 (s2 (s2 σ2 46 (5 + k) 0) 46 11 w) ∧ (∀ k' j, ¬ k' = 46 → ¬ k' = 56 → ¬ k' = 54 → ¬ k' = 55 → ¬ (k' = 39 ∧ (j = 32 ∨ j = 12)) → (s2 (s2 σ2 46 (5 + k) 0) 46 11 w) k' j = σ1 k' j) ∧ Vm1 (P.1 2) (s2 (s2 σ2 46 (5 + k) 0) 46 11 w) (vu (vu (cls σ) (10 + k) 0) 2 (if cls σ 2 + (cls σ (10 + k) + dty P (P.2.2 3 k) (cls σ (5 + k)) (cls σ 0)) < 999999 then cls σ 2 + (cls σ (10 + k) + dty P (P.2.2 3 k) (cls σ (5 + k)) (cls σ 0)) else 999999))) := fun w hw => by
      refine ⟨c, ⟨by rw [s2_ne _ _ (by omega), s2_ne _ _ (by omega)]; exact r2.1, fun j hj => by rw [s2_ne _ _ (by omega), s2_ne _ _ (by omega)]; exact r2.2 j hj⟩, fun k' j h1 h2 h3 h4 h5 => ?_, ?_⟩
      · rw [s2_ne _ _ (by omega), s2_ne _ _ (by omega)]; exact f2 k' j h2 (by omega)
      · rw [← hw]
        exact (V2.u (c0 := 10 + k) (by omega) (by omega) mu10 0).u (c0 := 2) (by omega) (by omega) rfl w
    by_cases cc : 999999 ≤ cls σ 2 + (cls σ (10 + k) + dty P (P.2.2 3 k) (cls σ (5 + k)) (cls σ 0))
    · rw [if_pos cc]
      exact ⟨rfl, Or.inr (go _ (by rw [if_neg (by rw [Int32.lt_iff_toInt_lt]; rw [Int32.le_iff_toInt_le] at cc; omega)]))⟩
    · rw [if_neg cc]
      exact ⟨rfl, Or.inr (go _ (by rw [if_pos (by rw [Int32.lt_iff_toInt_lt]; rw [Int32.le_iff_toInt_le] at cc; omega)]))⟩
/-- inspect -/
theorem ag_inspect1 {σ : St} {a b : Int32} (hJ : J3 σ) (j1 : CI 64 [.ref 0, .int a, .int b] σ (fun _ σ' => J σ')) (j2 : ∀ σ1, J σ1 → CI 160 [.ref 39, .int a, .int b] σ1 (fun _ σ' => J σ')) : CI 64 [.ref 0, .int a, .int b] σ (fun v1 σ1 => CI 160 [.ref 39, .int a, .int b] σ1 (fun v2 σ2 => v2 = v1 ∧ J2 D1 σ2 ∧ BX σ2)) := by
  refine ag_op1 hJ j1 j2 fun P x n hx hm hb hc hV hB => ?_
  have h5 := hb.1
  have h4 := hx.1.2.2.2
  obtain ⟨f, hf, hq⟩ := hB.2.1
  refine ⟨inR (P.1 3) a ∧ inR (P.1 2) b, owV (cls σ) b.toNatClampNeg (Int32.ofNat (10 * uc f (cls σ (5 + b.toNatClampNeg)) (cls σ 0) (P.1 1) 0 (P.2.2 5 a.toNatClampNeg).toInt.toNat)), if inR (P.1 3) a ∧ inR (P.1 2) b then Int32.ofNat (10 * uc f (cls σ (5 + b.toNatClampNeg)) (cls σ 0) (P.1 1) 0 (P.2.2 5 a.toNatClampNeg).toInt.toNat) else -1000000001, fun _ => BG_cg hB.2.2.1 h5 (fun c hc => by unfold owV; rw [vu_n (by omega)]), ?_, fun σ1 J1 e39 => ?_⟩
  · refine w_64 (s_87 hx.2.2.2.2.1 h4 (ite10 (fun c1 => s_86 hb.2.2.2.2.1 h5 (ite10 (fun c2 => ?_) (fun c2 => ⟨by rw [if_neg (fun z => c2 z.2)], Or.inl ⟨fun z => c2 z.2, fun _ _ _ => rfl⟩⟩))) (fun c1 => ⟨by rw [if_neg (fun z => c1 z.1)], Or.inl ⟨fun z => c1 z.1, fun _ _ _ => rfl⟩⟩)))
    refine s_9I hJ.1.1.1 hb fun σ1 I1 r1 f1 => ?_
    rw [if_pos ⟨c1, c2⟩]
    obtain ⟨i, hi, rfl, ei⟩ := inR_n c1
    obtain ⟨k, hk, rfl, ea⟩ := inR_n c2
    rw [ea, ei]
    have cc : cls σ1 = cls σ := cls_fx fun k j h1 h2 => f1 k j (by omega) (by omega)
    refine s_101 (f := f) (XP_ex (fun k j hk => f1 k j (by omega) (by omega)) hx) (fun j hj => (f1 15 j (by omega) (by omega)).trans (hq j hj)) hf.1 hi hk ?_
    have d2 : σ1 20 k = cls σ (5 + k) := by rw [← cc, cls5 (by omega)]
    have d3 : σ1 19 0 = cls σ 0 := by rw [← cc]; rfl
    rw [d2, d3]
    refine s_50c (by omega) fun σ5 f5 c5 => ⟨rfl, Or.inr ⟨⟨c1, c2⟩, RC_ex r1 (fun j => f5 23 j (by omega)) (fun j => f5 24 j (by omega)), fun k' j h1 h2 h3 h4 => (f5 k' j (by omega)).trans (f1 k' j h2 (by omega)), ?_⟩⟩
    rw [c5, cc]
  · have hc1 := C2_39 hc e39
    have hm1 := MPl_ex (fun k j hk => e39 k j (by omega)) hm
    refine w_160 (s_116 hm1.2.2.2.1 h4 (ite10 (fun c1 => s_115 hc1.2.2.2.1 h5 (ite10 (fun c2 => ?_) (fun c2 => ⟨by rw [if_neg (fun z => c2 z.2)], Or.inl ⟨fun z => c2 z.2, fun _ _ _ _ => rfl⟩⟩))) (fun c1 => ⟨by rw [if_neg (fun z => c1 z.1)], Or.inl ⟨fun z => c1 z.1, fun _ _ _ _ => rfl⟩⟩)))
    refine s_153I J1.1 hc1 fun σ2 I2 r2 f2 => ?_
    rw [if_pos ⟨c1, c2⟩]
    obtain ⟨i, hi, rfl, ei⟩ := inR_n c1
    obtain ⟨k, hk, rfl, ea⟩ := inR_n c2
    rw [ea, ei]
    have V2 : Vm1 (P.1 2) σ2 (cls σ) := (hV σ1 e39).ex (fun j => f2 46 j (by omega) (by omega)) (f2 39 12 (by omega) (by omega))
    refine s_159 (f := f) hx.1 (MPl_ex (fun k j hk => f2 k j (by omega) (by omega)) hm1) hf hi hk (fun j hj => by rw [V2.s h5 hk]; exact hB.2.2.1.2.1 k hk j hj) ?_
    rw [V2.s h5 hk, V2.c.1]
    refine s_158m h5 hk V2 fun σ5 f5 V5 => ⟨rfl, Or.inr ⟨⟨c1, c2⟩, ⟨(f5 39 32 (by omega)).trans r2.1, fun j hj => (f5 56 j (by omega)).trans (r2.2 j hj)⟩, fun k' j h1 h2 h3 h4 h5 => (f5 k' j h1).trans (f2 k' j h2 (by omega)), V5⟩⟩
