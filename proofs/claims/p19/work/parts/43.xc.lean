/-! bits -/
def bt (x : Int32) (i : Nat) : Bool := x.toBitVec.getLsbD i
theorem b_ext {x y : Int32} (h : ∀ i, i < 32 → bt x i = bt y i) : x = y := Int32.toBitVec_inj.mp (BitVec.eq_of_getLsbD_eq (fun i hi => h i hi))
theorem b_or (x y : Int32) (i : Nat) : bt (x ||| y) i = (bt x i || bt y i) := by unfold bt; rw [Int32.toBitVec_or, BitVec.getLsbD_or]
theorem b_and (x y : Int32) (i : Nat) : bt (x &&& y) i = (bt x i && bt y i) := by unfold bt; rw [Int32.toBitVec_and, BitVec.getLsbD_and]
theorem b_xor (x y : Int32) (i : Nat) : bt (x ^^^ y) i = (bt x i ^^ bt y i) := by unfold bt; rw [Int32.toBitVec_xor, BitVec.getLsbD_xor]
theorem b_big {x : Int32} {i : Nat} (h : 32 ≤ i) : bt x i = false := BitVec.getLsbD_of_ge _ _ h
theorem b_m1 : ∀ i, i < 32 → bt (-1) i = true := by decide +kernel
theorem b_0 (i : Nat) : bt 0 i = false := BitVec.getLsbD_zero
theorem s_l : ∀ n, n < 32 → ((nI n &&& 31).toBitVec.smod 32).toNat = n := by decide +kernel
theorem s_u : ∀ n, n < 32 → (((nI n).toUInt32 &&& Int32.toUInt32 31).toBitVec % 32).toNat = n := by decide +kernel
theorem b_shl (n : Nat) (hn : n < 32) (x : Int32) {i : Nat} (hi : i < 32) : bt (x <<< (nI n &&& 31)) i = (decide (n ≤ i) && bt x (i - n)) := by
  unfold bt
  rw [Int32.toBitVec_shiftLeft]
  show (x.toBitVec <<< ((nI n &&& 31).toBitVec.smod 32).toNat).getLsbD i = _
  rw [s_l n hn, BitVec.getLsbD_shiftLeft]
  rcases Nat.lt_or_ge i n with h | h
  · simp [h, Nat.not_le.mpr h]
  · simp [hi, h, Nat.not_lt.mpr h]
theorem b_ushr (n : Nat) (hn : n < 32) (x : Int32) (i : Nat) : bt ((x.toUInt32 >>> ((nI n).toUInt32 &&& Int32.toUInt32 31)).toInt32) i = bt x (n + i) := by
  show (x.toUInt32 >>> ((nI n).toUInt32 &&& Int32.toUInt32 31)).toBitVec.getLsbD i = x.toUInt32.toBitVec.getLsbD (n + i)
  rw [UInt32.toBitVec_shiftRight]
  show (x.toUInt32.toBitVec >>> (((nI n).toUInt32 &&& Int32.toUInt32 31).toBitVec % 32).toNat).getLsbD i = _
  rw [s_u n hn, BitVec.getLsbD_ushiftRight]
theorem b_sshr (n : Nat) (hn : n < 32) (x : Int32) {i : Nat} (hi : i < 32) : bt (x >>> (nI n &&& 31)) i = if n + i < 32 then bt x (n + i) else bt x 31 := by
  unfold bt
  rw [Int32.toBitVec_shiftRight]
  show (x.toBitVec.sshiftRight ((nI n &&& 31).toBitVec.smod 32).toNat).getLsbD i = _
  rw [s_l n hn, BitVec.getLsbD_sshiftRight, BitVec.msb_eq_getLsbD_last]
  simp [hi]
theorem b_1 : ∀ i, i < 32 → bt 1 i = decide (i = 0) := by decide +kernel
theorem bif01 (b : Bool) {i : Nat} (hi : i < 32) : bt (bif b then 1 else 0) i = (b && decide (i = 0)) := by
  cases b with
  | true => rw [cond_true, Bool.true_and]; exact b_1 i hi
  | false => rw [cond_false, Bool.false_and]; exact b_0 i
theorem bit_u {x : Int32} {k : Nat} (hk : k < 32) : ush x (Int32.ofNat k) &&& 1 = bif bt x k then 1 else 0 := by
  refine b_ext fun i hi => ?_
  rw [b_and, bif01 _ hi, b_1 i hi]
  by_cases c : i = 0
  · rw [c]
    have := b_ushr k hk x 0
    unfold ush
    rw [show Int32.ofNat k = nI k from rfl, this]
    rfl
  · rw [decide_eq_false c, Bool.and_false, Bool.and_false]
theorem bit_s {x : Int32} {k : Nat} (hk : k < 32) : (x >>> (Int32.ofNat k &&& 31)) &&& 1 = bif bt x k then 1 else 0 := by
  refine b_ext fun i hi => ?_
  rw [b_and, bif01 _ hi, b_1 i hi]
  by_cases c : i = 0
  · rw [c]
    have := b_sshr k hk x (i := 0) (by omega)
    rw [show Int32.ofNat k = nI k from rfl, this, if_pos (by omega)]
    rfl
  · rw [decide_eq_false c, Bool.and_false, Bool.and_false]
/-- a number in range is a natural one -/
theorem inR_n {n : Nat} {a : Int32} (h : inR n a) : ∃ k : Nat, k < n ∧ a = Int32.ofNat k ∧ a.toNatClampNeg = k := by
  unfold inR at h
  refine ⟨a.toInt.toNat, by omega, (of_ti h.1).symm, rfl⟩
/-! the state that class and reference share -/
abbrev D0 (M c : Nat) : Prop := c = 0 ∨ c = 1 ∨ (5 ≤ c ∧ c < 5 + M ∧ c < 10)
def IMx (D : Nat → Prop) (σ : St) : Prop := ∀ i, i < 2 → ¬ σ 62 i = 0 → (∀ c, D c → σ 26 (15 * i + c) = σ 61 (15 * i + mu c)) ∧ σ 26 (15 * i + 4) = σ 61 (15 * i + 14)
def E2 (D : Nat → Nat → Prop) (M : Nat) (σ : St) : Prop := (∀ c, D M c → cls σ c = σ 46 (mu c)) ∧ (∃ x n, UNx (D M) σ x n) ∧ IMx (D M) σ ∧ σ 19 4 = σ 39 12
def J2 (D : Nat → Nat → Prop) (σ : St) : Prop := J σ ∧ ∃ P, XP σ P ∧ MPl σ P ∧ E2 D (P.1 2) σ
def HD (D : Nat → Nat → Prop) : Prop := (∀ M c, D M c → c < 15 ∧ ¬ c = 4 ∧ (5 ≤ c → c < 10 → c < 5 + M)) ∧ ∀ M c, D0 M c → D M c
theorem HD0 : HD D0 := ⟨fun M c h => by omega, fun _ _ h => h⟩
abbrev S2p (k j : Nat) : Prop := k = 11 ∨ k = 12 ∨ k = 13 ∨ k = 14 ∨ k = 16 ∨ k = 18 ∨ (k = 39 ∧ (j = 0 ∨ j = 1 ∨ j = 6 ∨ j = 9 ∨ j = 12 ∨ j = 32)) ∨ (40 ≤ k ∧ k ≤ 46) ∨ k = 19 ∨ k = 20 ∨ k = 21 ∨ k = 23 ∨ k = 24 ∨ k = 26 ∨ k = 56 ∨ k = 61 ∨ k = 62
theorem XP_ex {σ σ' : St} {P : PS} (e : ∀ k j, k = 11 ∨ k = 12 ∨ k = 13 ∨ k = 14 ∨ k = 16 ∨ k = 18 → σ' k j = σ k j) (h : XP σ P) : XP σ' P := by
  obtain ⟨b0, a1, a2, a3, a4, a5, a6, a7⟩ := h
  refine ⟨b0, by rw [e 11 0 (by omega)]; exact a1, by rw [e 11 1 (by omega)]; exact a2, by rw [e 11 2 (by omega)]; exact a3, by rw [e 11 3 (by omega)]; exact a4, fun j hj => ?_, fun j hj => ?_, fun j hj => ?_⟩
  · rw [e 12 j (by omega), e 13 j (by omega), e 14 j (by omega)]; exact a5 j hj
  · rw [e 16 j (by omega)]; exact a6 j hj
  · rw [e 18 j (by omega)]; exact a7 j hj
theorem MPl_ex {σ σ' : St} {P : PS} (e : ∀ k j, (k = 39 ∧ (j = 0 ∨ j = 1 ∨ j = 6 ∨ j = 9)) ∨ k = 40 ∨ k = 41 ∨ k = 42 ∨ k = 43 ∨ k = 45 → σ' k j = σ k j) (h : MPl σ P) : MPl σ' P := by
  obtain ⟨a1, a2, a3, a4, a5, a6, a7⟩ := h
  refine ⟨by rw [e 39 0 (by omega)]; exact a1, by rw [e 39 1 (by omega)]; exact a2, by rw [e 39 6 (by omega)]; exact a3, by rw [e 39 9 (by omega)]; exact a4, fun j hj => ?_, fun j hj => ?_, fun j hj => ?_⟩
  · rw [e 40 j (by omega), e 41 j (by omega), e 42 j (by omega)]; exact a5 j hj
  · rw [e 43 j (by omega)]; exact a6 j hj
  · rw [e 45 j (by omega)]; exact a7 j hj
theorem UNx_ex {D : Nat → Prop} {σ σ' : St} {x n : Nat} (e24 : ∀ j, σ' 24 j = σ 24 j) (e23 : ∀ j, σ' 23 j = σ 23 j) (e56 : ∀ j, σ' 56 j = σ 56 j) (e32 : σ' 39 32 = σ 39 32) (h : UNx D σ x n) : UNx D σ' x n := by
  obtain ⟨a1, a2, a3, a4, a5, a6⟩ := h
  exact ⟨by rw [e24]; exact a1, a2, by rw [e24]; exact a3, a4, by rw [e32]; exact a5, fun k hk c hc => by rw [e23, e56]; exact a6 k hk c hc⟩
theorem IMx_ex {D : Nat → Prop} {σ σ' : St} (e26 : ∀ j, σ' 26 j = σ 26 j) (e61 : ∀ j, σ' 61 j = σ 61 j) (e62 : ∀ j, σ' 62 j = σ 62 j) (h : IMx D σ) : IMx D σ' := fun i hi h0 => by
  obtain ⟨a, b⟩ := h i hi (by rw [e62] at h0; exact h0)
  exact ⟨fun c hc => by rw [e26, e61]; exact a c hc, by rw [e26, e61]; exact b⟩
theorem J2_ex {D : Nat → Nat → Prop} {σ σ' : St} (h : J2 D σ) (hJ : J σ') (e : ∀ k j, S2p k j → σ' k j = σ k j) : J2 D σ' := by
  obtain ⟨-, P, hx, hm, h1, ⟨x, n, h2⟩, h3, h4⟩ := h
  have c1 : ∀ c, cls σ' c = cls σ c := cls_ex fun k j h1 h2 => by
    have c : k = 19 ∨ k = 20 ∨ k = 21 := by omega
    rcases c with rfl | rfl | rfl
    · exact e 19 j (by omega)
    · exact e 20 j (by omega)
    · exact e 21 j (by omega)
  refine ⟨hJ, P, XP_ex (fun k j hk => ?_) hx, MPl_ex (fun k j hk => ?_) hm, fun c hc => ?_, ⟨x, n, UNx_ex (fun j => e 24 j (by omega)) (fun j => e 23 j (by omega)) (fun j => e 56 j (by omega)) (e 39 32 (by omega)) h2⟩, IMx_ex (fun j => e 26 j (by omega)) (fun j => e 61 j (by omega)) (fun j => e 62 j (by omega)) h3, ?_⟩
  · rcases hk with rfl | rfl | rfl | rfl | rfl | rfl
    · exact e 11 j (by omega)
    · exact e 12 j (by omega)
    · exact e 13 j (by omega)
    · exact e 14 j (by omega)
    · exact e 16 j (by omega)
    · exact e 18 j (by omega)
  · rcases hk with ⟨rfl, hj⟩ | rfl | rfl | rfl | rfl | rfl
    · exact e 39 j (by omega)
    · exact e 40 j (by omega)
    · exact e 41 j (by omega)
    · exact e 42 j (by omega)
    · exact e 43 j (by omega)
    · exact e 45 j (by omega)
  · rw [c1, e 46 _ (by omega)]; exact h1 c hc
  · rw [e 19 4 (by omega), e 39 12 (by omega)]; exact h4
/-- a call that touches nothing of it -/
def okB2 (md : List (Nat × Nat)) (am : List Nat) : Bool := md.all (fun q => decide (¬ S2p q.1 q.2)) && am.all (fun a => decide (¬ (a = 11 ∨ a = 12 ∨ a = 13 ∨ a = 14 ∨ a = 16 ∨ a = 18 ∨ (39 ≤ a ∧ a ≤ 46) ∨ a = 19 ∨ a = 20 ∨ a = 21 ∨ a = 23 ∨ a = 24 ∨ a = 26 ∨ a = 56 ∨ a = 61 ∨ a = 62)))
theorem okB2_ok {md : List (Nat × Nat)} {am : List Nat} (h : okB2 md am = true) {σ σ' : St} (f : FrM md am σ σ') : ∀ k j, S2p k j → σ' k j = σ k j := by
  unfold okB2 at h
  rw [Bool.and_eq_true] at h
  intro k j hs
  refine fr_k f (fun q hq z => ?_) (fun a ha z => ?_)
  · have := of_decide_eq_true (List.all_eq_true.mp h.1 q hq)
    rw [z.1, z.2] at this
    exact this hs
  · have := of_decide_eq_true (List.all_eq_true.mp h.2 a ha)
    rw [z] at this
    unfold S2p at hs
    omega
theorem J2_call {D : Nat → Nat → Prop} {c : Con} (hs : Sat c) (hp : cPr c = []) (hg : cGp c = false) (hk : mRK (cY c) ≠ 0) (hf : okB (cMd c) (cAm c) = true) (hf2 : okB2 (cMd c) (cAm c) = true) {vs : List Value} (ha : argsS (cAr c) vs) {σ : St} (hJ : J2 D σ) {K : Int32 → St → Prop} (hK : ∀ v σ', J2 D σ' → K v σ') : CI (cY c) vs σ K :=
  (CI.con hs hp hg hk ha hJ.1.1).imp fun v σ' h => hK v σ' (J2_ex hJ ⟨h.1, J_fr (okB_ok hf) h.2 hJ.1.2⟩ (okB2_ok hf2 h.2))
/-- agreement that holds of J and touches nothing more -/
theorem ag_lift {D : Nat → Nat → Prop} {y1 y2 : Nat} {vs1 vs2 : List Value} {md1 md2 : List (Nat × Nat)} {am1 am2 : List Nat} {σ : St} (hJ : J2 D σ) (ag : ∀ {K : Int32 → Int32 → St → Prop}, (∀ v σ', J σ' → K v v σ') → CI y1 vs1 σ (fun v1 σ1 => CI y2 vs2 σ1 (fun v2 σ2 => K v1 v2 σ2))) (h1 : CI y1 vs1 σ (fun _ σ' => Inv σ' ∧ FrM md1 am1 σ σ')) (h2 : ∀ σ1, Inv σ1 → CI y2 vs2 σ1 (fun _ σ' => Inv σ' ∧ FrM md2 am2 σ1 σ')) (k1 : okB2 md1 am1 = true) (k2 : okB2 md2 am2 = true) {K : Int32 → Int32 → St → Prop} (hK : ∀ v σ', J2 D σ' → K v v σ') : CI y1 vs1 σ (fun v1 σ1 => CI y2 vs2 σ1 (fun v2 σ2 => K v1 v2 σ2)) := by
  refine ((ag (K := fun v1 v2 σ' => v2 = v1 ∧ J σ') (fun v σ' j => ⟨rfl, j⟩)).and h1).imp fun v1 σ1 ⟨z1, I1, f1⟩ => ?_
  refine (CI.and z1 (h2 σ1 I1)).imp fun v2 σ2 ⟨⟨e, j2⟩, _, f2⟩ => ?_
  rw [e]
  exact hK _ _ (J2_ex hJ j2 (fun k j hs => (okB2_ok k2 f2 k j hs).trans (okB2_ok k1 f1 k j hs)))
