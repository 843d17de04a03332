/-! days: numbers -/
def sd (s : Int32) : Int32 := Int64.toInt32 ((((Int32.toInt64 s) * 1103515245) + 12345) &&& 2147483647)
def dn (s n : Int32) : Int32 := s / 65536 - s / 65536 / n * n
theorem and31 {x : Int64} (h : 0 ≤ x.toInt) : (x &&& 2147483647).toInt = x.toInt % 2147483648 := by
  have l : (2147483647 : Int64).toBitVec.toNat = 2 ^ 31 - 1 := by decide
  have e : (x &&& 2147483647).toBitVec.toNat = x.toBitVec.toNat % 2147483648 := by
    rw [Int64.toBitVec_and, BitVec.toNat_and, l]
    exact Nat.and_two_pow_sub_one_eq_mod _ 31
  have hx : x.toInt = (x.toBitVec.toNat : Int) := by
    have h2 : 0 ≤ x.toBitVec.toInt := h
    show x.toBitVec.toInt = _
    rw [BitVec.toInt_eq_toNat_cond] at h2 ⊢
    split at h2
    · rename_i c; rw [if_pos c]
    · have := x.toBitVec.isLt; omega
  show (x &&& 2147483647).toBitVec.toInt = _
  rw [BitVec.toInt_eq_toNat_cond, e, if_pos (by omega), hx]
  omega
theorem sd_x {s : Int32} (h : 0 ≤ s.toInt) : (((Int32.toInt64 s) * 1103515245) + 12345).toInt = s.toInt * 1103515245 + 12345 := by
  have h2 := ti_r s
  have l1 : (1103515245 : Int64).toInt = 1103515245 := rfl
  have l2 : (12345 : Int64).toInt = 12345 := rfl
  have e : (Int32.toInt64 s * 1103515245).toInt = s.toInt * 1103515245 := by
    rw [Int64.toInt_mul, Int32.toInt_toInt64, l1]
    exact bm64 (by unfold lo64; omega) (by unfold hi64; omega)
  rw [Int64.toInt_add, e, l2]
  exact bm64 (by unfold lo64; omega) (by unfold hi64; omega)
theorem sd_mod {s : Int32} (h : 0 ≤ s.toInt) : Int64.toInt32 ((((Int32.toInt64 s) * 1103515245) + 12345) - (((Int32.toInt64 s) * 1103515245) + 12345) / 2147483648 * 2147483648) = sd s := by
  unfold sd
  have e := sd_x h
  generalize ((Int32.toInt64 s) * 1103515245) + 12345 = x at e
  have h2 : 0 ≤ x.toInt := by omega
  have l : (2147483648 : Int64).toInt = 2147483648 := rfl
  congr 1
  refine Int64.toInt_inj.mp ?_
  rw [and31 h2, rem64 h2 (by rw [l]; omega), l]
  omega
theorem sd_nn (s : Int32) : 0 ≤ (sd s).toInt := by
  have l : (2147483647 : Int64).toInt = 2147483647 := rfl
  obtain ⟨a, b⟩ := (and64 (((Int32.toInt64 s) * 1103515245) + 12345) 2147483647).1 (by rw [l]; omega)
  rw [l] at b
  unfold sd
  rw [Int64.toInt_toInt32]
  rw [bm32 (by unfold lo32; omega) (by unfold hi32; omega)]
  exact a
theorem dn_in {s : Int32} {n : Nat} (hs : 0 ≤ s.toInt) (h1 : 1 ≤ n) (hn : n ≤ 12) : inR n (dn s (Int32.ofNat n)) := by
  have l : (65536 : Int32).toInt = 65536 := rfl
  have e := div32 (x := s) (y := 65536) hs (by rw [l]; omega)
  rw [l] at e
  have h0 : 0 ≤ (s / 65536).toInt := by rw [e]; omega
  have t := ti_of (n := n) (by omega)
  have d := div_nn (a := (s / 65536).toInt) (b := (Int32.ofNat n).toInt) h0 (by rw [t]; omega)
  unfold inR dn
  rw [rem32 h0 (by rw [t]; omega)]
  rw [t] at d ⊢
  omega
/-! days: the cells -/
def vu (V : Nat → Int32) (c : Nat) (w : Int32) : Nat → Int32 := fun d => if d = c then w else V d
def Vc (M : Nat) (σ : St) (V : Nat → Int32) : Prop := (∀ c, D0 M c → cls σ c = V c) ∧ σ 19 4 = V 4
def Vm (M : Nat) (σ : St) (V : Nat → Int32) : Prop := (∀ c, D0 M c → σ 46 (mu c) = V c) ∧ σ 39 12 = V 4
theorem Vc_ex {M : Nat} {σ σ' : St} {V : Nat → Int32} (h : Vc M σ V) (e : ∀ k j, k = 19 ∨ k = 20 ∨ k = 21 → (k = 19 → j = 0 ∨ j = 1 ∨ j = 4) → ¬ k = 21 → σ' k j = σ k j) : Vc M σ' V := by
  refine ⟨fun c hc => ?_, (e 19 4 (by omega) (by omega) (by omega)).trans h.2⟩
  rw [← h.1 c hc]
  unfold cls
  split
  · exact e 19 c (by omega) (by omega) (by omega)
  · split
    · exact e 20 _ (by omega) (by omega) (by omega)
    · omega
theorem Vc_4 {M : Nat} {σ : St} {V : Nat → Int32} (h : Vc M σ V) (w : Int32) : Vc M (s2 σ 19 4 w) (vu V 4 w) := by
  refine ⟨fun c hc => ?_, rfl⟩
  have c4 : ¬ c = 4 := by omega
  show _ = if c = 4 then w else V c
  rw [if_neg c4, ← h.1 c hc]
  unfold cls
  split
  · exact s2_ne _ _ (by omega)
  · split
    · exact s2_ne _ _ (by omega)
    · exact s2_ne _ _ (by omega)
theorem Vc_j {M j : Nat} {σ : St} {V : Nat → Int32} (h : Vc M σ V) (hj : j = 0 ∨ j = 1) (w : Int32) : Vc M (s2 σ 19 j w) (vu V j w) := by
  refine ⟨fun c hc => ?_, ?_⟩
  · show _ = if c = j then w else V c
    unfold cls
    by_cases e : c = j
    · rw [if_pos e, if_pos (by omega), e]
      exact s2_self _ _ _ _
    · rw [if_neg e, ← h.1 c hc]
      unfold cls
      split
      · exact s2_ne _ _ (by omega)
      · split
        · exact s2_ne _ _ (by omega)
        · exact s2_ne _ _ (by omega)
  · show _ = if 4 = j then w else V 4
    rw [if_neg (by omega), ← h.2]
    exact s2_ne _ _ (by omega)
theorem Vc_s {M k : Nat} {σ : St} {V : Nat → Int32} (h : Vc M σ V) (hk : k < 5) (w : Int32) : Vc M (s2 σ 20 k w) (vu V (5 + k) w) := by
  refine ⟨fun c hc => ?_, ?_⟩
  · show _ = if c = 5 + k then w else V c
    by_cases e : c = 5 + k
    · rw [if_pos e, e, cls5 hk]
      exact s2_self _ _ _ _
    · rw [if_neg e, ← h.1 c hc]
      unfold cls
      split
      · exact s2_ne _ _ (by omega)
      · split
        · exact s2_ne _ _ (by omega)
        · exact s2_ne _ _ (by omega)
  · show _ = if 4 = 5 + k then w else V 4
    rw [if_neg (by omega), ← h.2]
    exact s2_ne _ _ (by omega)
theorem Vm_ex {M : Nat} {σ σ' : St} {V : Nat → Int32} (h : Vm M σ V) (e : ∀ j, j < 5 ∨ j = 10 ∨ j = 13 → σ' 46 j = σ 46 j) (e2 : σ' 39 12 = σ 39 12) : Vm M σ' V :=
  ⟨fun c hc => (e _ (mu_D0 hc)).trans (h.1 c hc), e2.trans h.2⟩
theorem Vm_4 {M : Nat} {σ : St} {V : Nat → Int32} (h : Vm M σ V) (w : Int32) : Vm M (s2 σ 39 12 w) (vu V 4 w) := by
  refine ⟨fun c hc => ?_, rfl⟩
  have c4 : ¬ c = 4 := by omega
  show _ = if c = 4 then w else V c
  rw [if_neg c4, ← h.1 c hc]
  exact s2_ne _ _ (by omega)
theorem Vm_c {M c0 j : Nat} {σ : St} {V : Nat → Int32} (h : Vm M σ V) (h0 : D0 M c0) (hj : mu c0 = j) (w : Int32) : Vm M (s2 σ 46 j w) (vu V c0 w) := by
  refine ⟨fun c hc => ?_, ?_⟩
  · show _ = if c = c0 then w else V c
    by_cases e : c = c0
    · rw [if_pos e, e, hj]
      exact s2_self _ _ _ _
    · rw [if_neg e, ← h.1 c hc]
      exact s2_ne _ _ (fun z => e (mu_inj (by omega) (by omega) (by omega) (by omega) (z.2.trans hj.symm)))
  · show _ = if 4 = c0 then w else V 4
    rw [if_neg (by omega), ← h.2]
    exact s2_ne _ _ (by omega)
/-- a day; what happens by draws -/
def dyV (V : Nat → Int32) : Nat → Int32 := vu V 1 (V 1 + 1)
def shl1 (k : Int32) : Int32 := 1 <<< (k &&& 31)
def chV (L M I : Nat) (V : Nat → Int32) : Nat → Int32 :=
  if dn (sd (V 4)) 5 = 0 then vu (vu (vu V 4 (sd (V 4))) 4 (sd (sd (V 4)))) 0 (V 0 ^^^ shl1 (dn (sd (sd (V 4))) (Int32.ofNat L)))
  else if dn (sd (V 4)) 5 = 1 then
    (if M = 0 then vu V 4 (sd (V 4)) else vu (vu (vu (vu V 4 (sd (V 4))) 4 (sd (sd (V 4)))) 4 (sd (sd (sd (V 4))))) (5 + (dn (sd (sd (V 4))) (Int32.ofNat M)).toNatClampNeg) (V (5 + (dn (sd (sd (V 4))) (Int32.ofNat M)).toNatClampNeg) ^^^ shl1 (dn (sd (sd (sd (V 4)))) (Int32.ofNat L))))
  else if dn (sd (V 4)) 5 = 2 then (if M = 0 then vu V 4 (sd (V 4)) else if I = 0 then vu V 4 (sd (V 4)) else vu (vu (vu V 4 (sd (V 4))) 4 (sd (sd (V 4)))) 4 (sd (sd (sd (V 4)))))
  else vu V 4 (sd (V 4))
def itV (f : (Nat → Int32) → Nat → Int32) : Nat → (Nat → Int32) → Nat → Int32
  | 0, V => V
  | n + 1, V => itV f n (f V)
/-! the invariant does not speak of the state -/
theorem iv_st {k : Nat} (h : k = 19 ∨ k = 20 ∨ k = 21 ∨ k = 46) (j : Nat) : iv k j = (lo32, hi32) := by
  rcases h with h | h | h | h <;> subst h <;> rfl
theorem InvF {σ σ' : St} (hI : Inv σ) (h : ∀ k j, ¬ (k = 19 ∨ k = 20 ∨ k = 21 ∨ k = 46) → σ' k j = σ k j) : Inv σ' := by
  refine ⟨fun k j => ?_, fun l hl => ?_⟩
  · by_cases e : k = 19 ∨ k = 20 ∨ k = 21 ∨ k = 46
    · rw [iv_st e]; exact rng32 _
    · rw [h k j e]; exact hI.1 k j
  · have h1 : σ' qO qL = σ qO qL := h 39 1 (by decide)
    have h2 : σ' qO qP = σ qO qP := h 39 0 (by decide)
    have h3 : σ' qA l = σ qA l := h 40 l (by decide)
    have h4 : σ' qB l = σ qB l := h 41 l (by decide)
    rw [h1] at hl
    rw [h2, h3, h4]
    exact hI.2 l hl
theorem Inv12 {σ : St} (hI : Inv σ) {w : Int32} (hw : 0 ≤ w.toInt) : Inv (s2 σ 39 12 w) := by
  have ne : ∀ k j, ¬ (k = 39 ∧ j = 12) → s2 σ 39 12 w k j = σ k j := fun k j h => s2_ne _ _ h
  refine ⟨fun k j => ?_, fun l hl => ?_⟩
  · by_cases e : k = 39 ∧ j = 12
    · rw [e.1, e.2, s2_self, show iv 39 12 = (0, 2147483647) from rfl]
      exact ⟨hw, (ti_r w).2⟩
    · rw [ne k j e]; exact hI.1 k j
  · have h1 : s2 σ 39 12 w qO qL = σ qO qL := ne 39 1 (by decide)
    have h2 : s2 σ 39 12 w qO qP = σ qO qP := ne 39 0 (by decide)
    have h3 : s2 σ 39 12 w qA l = σ qA l := ne 40 l (by omega)
    have h4 : s2 σ 39 12 w qB l = σ qB l := ne 41 l (by omega)
    rw [h1] at hl
    rw [h2, h3, h4]
    exact hI.2 l hl
/-! passDay, pass -/
theorem q_103l {M : Nat} {τ : St} {K : St → Prop} (hM : M ≤ 5) (e2 : τ 11 2 = Int32.ofNat M) (hK : ∀ σ', (∀ k j, ¬ k = 21 → σ' k j = τ k j) → K (s2 σ' 19 1 (σ' 19 1 + 1))) : ∀ (d i : Nat) {σ : St}, i + d = M → Inv σ → (∀ k j, ¬ k = 21 → σ k j = τ k j) → PV 103 2 [some (.ref 0), some (.int (Int32.ofNat i))] [] σ K := by
  intro d
  induction d with
  | zero =>
    intro i σ hi hI hf
    refine w_103_2 ?_
    rw [(hf 11 2 (by omega)).trans e2, if_pos (by rw [Int32.le_iff_toInt_le, ti_of (by omega), ti_of (by omega)]; omega)]
    exact hK σ hf
  | succ d ih =>
    intro i σ hi hI hf
    refine w_103_2 ?_
    rw [(hf 11 2 (by omega)).trans e2, if_neg (by rw [Int32.le_iff_toInt_le, ti_of (by omega), ti_of (by omega)]; omega)]
    refine CI.pur (c := con_40) sat_40 rfl rfl (by decide) rfl rfl (by exact ⟨rfl, aI (by decide) (by decide), trivial⟩) hI fun v => ?_
    refine (CV.con (c := con_37) sat_37 rfl rfl rfl (vs := [.ref 19, .int (Int32.ofNat i), .int v]) (by exact ⟨rfl, aI (by decide) (by decide), aI (by decide) (by decide), trivial⟩) hI).imp fun σ2 ⟨I2, f2⟩ => ?_
    rw [of_s]
    exact ih (i + 1) (by omega) I2 (fun k j hk => (fr_k f2 (fun q hq => absurd hq List.not_mem_nil) (by intro a ha; have := List.mem_singleton.mp ha; omega)).trans (hf k j hk))
theorem q_103 {M : Nat} {σ : St} {V : Nat → Int32} {K : St → Prop} (hM : M ≤ 5) (e2 : σ 11 2 = Int32.ofNat M) (hI : Inv σ) (hV : Vc M σ V) (hK : ∀ σ', Inv σ' → (∀ k j, ¬ (19 ≤ k ∧ k ≤ 21) → σ' k j = σ k j) → Vc M σ' (dyV V) → K σ') : CV 103 [.ref 0] σ K := by
  refine w_103 (q_103l hM e2 (fun σ' f => ?_) M 0 (by omega) hI (fun _ _ _ => rfl))
  have v1 : σ' 19 1 = V 1 := (f 19 1 (by omega)).trans (hV.1 1 (Or.inr (Or.inl rfl)))
  refine hK _ (InvF hI (fun k j h => ?_)) (fun k j h => ?_) ?_
  · rw [s2_ne _ _ (by omega)]; exact f k j (by omega)
  · rw [s2_ne _ _ (by omega)]; exact f k j (by omega)
  · rw [v1]
    exact Vc_j (Vc_ex hV (fun k j _ _ h3 => f k j h3)) (Or.inr rfl) _
theorem q_163l {M : Nat} {τ : St} {K : St → Prop} (hM : M ≤ 5) (e2 : τ 39 6 = Int32.ofNat M) (hK : ∀ σ', (∀ k j, ¬ (k = 46 ∧ 5 ≤ j ∧ j < 10) → σ' k j = τ k j) → K (s2 σ' 46 13 (σ' 46 13 + 1))) : ∀ (d i : Nat) {σ : St}, i + d = M → Inv σ → (∀ k j, ¬ (k = 46 ∧ 5 ≤ j ∧ j < 10) → σ k j = τ k j) → PV 163 2 [some (.ref 39), some (.int (Int32.ofNat i))] [] σ K := by
  intro d
  induction d with
  | zero =>
    intro i σ hi hI hf
    refine w_163_2 ?_
    rw [(hf 39 6 (by omega)).trans e2, if_pos (by rw [Int32.le_iff_toInt_le, ti_of (by omega), ti_of (by omega)]; omega)]
    exact hK σ hf
  | succ d ih =>
    intro i σ hi hI hf
    refine w_163_2 ?_
    rw [(hf 39 6 (by omega)).trans e2, if_neg (by rw [Int32.le_iff_toInt_le, ti_of (by omega), ti_of (by omega)]; omega)]
    have ri : inR M (Int32.ofNat i) := by unfold inR; rw [ti_of (by omega)]; omega
    refine w_136 ⟨by rw [ti_of (by omega)]; omega, CI.pur (c := con_93) sat_93 rfl rfl (by decide) rfl rfl (by exact ⟨rfl, aI (by decide) (by decide), aI (by decide) (by decide), trivial⟩) hI fun v => ?_⟩
    refine o_158 hM ri fun σ2 f2 => ?_
    rw [of_s]
    exact ih (i + 1) (by omega) (InvF hI (fun k j h => f2 k j (by omega))) (fun k j hk => (f2 k j hk).trans (hf k j hk))
theorem q_163 {M : Nat} {σ : St} {V : Nat → Int32} {K : St → Prop} (hM : M ≤ 5) (e2 : σ 39 6 = Int32.ofNat M) (hI : Inv σ) (hV : Vm M σ V) (hK : ∀ σ', Inv σ' → (∀ k j, ¬ k = 46 → σ' k j = σ k j) → Vm M σ' (dyV V) → K σ') : CV 163 [.ref 39] σ K := by
  refine w_163 (q_163l hM e2 (fun σ' f => ?_) M 0 (by omega) hI (fun _ _ _ => rfl))
  have d1 : D0 M 1 := Or.inr (Or.inl rfl)
  have v1 : σ' 46 13 = V 1 := (f 46 13 (by omega)).trans (hV.1 1 d1)
  refine hK _ (InvF hI (fun k j h => ?_)) (fun k j h => ?_) ?_
  · rw [s2_ne _ _ (by omega)]; exact f k j (by omega)
  · rw [s2_ne _ _ (by omega)]; exact f k j (by omega)
  · rw [v1]
    exact Vm_c (Vm_ex hV (fun j h => f 46 j (by omega)) (f 39 12 (by omega))) d1 rfl _
/-! draws -/
theorem s_51 {σ : St} {n : Nat} {K : Int32 → St → Prop} (h : 1 ≤ n) (hn : n ≤ 12) (hK : K (dn (sd (σ 19 4)) (Int32.ofNat n)) (s2 σ 19 4 (sd (σ 19 4)))) : CI 51 [.ref 19, .int (Int32.ofNat n)] σ K := by
  have l1 : (1 : Int32).toInt = 1 := rfl
  refine w_51 ?_
  rw [if_pos (by rw [Int32.le_iff_toInt_le, ti_of (by omega), l1]; omega)]
  exact ⟨fun z => absurd ((of_z (by omega)).mp z) (by omega), hK⟩
theorem s_166 {σ : St} {n : Nat} {K : Int32 → St → Prop} (h0 : 0 ≤ (σ 39 12).toInt) (h : 1 ≤ n) (hn : n ≤ 12) (hK : K (dn (sd (σ 39 12)) (Int32.ofNat n)) (s2 σ 39 12 (sd (σ 39 12)))) : CI 166 [.ref 39, .int (Int32.ofNat n)] σ K := by
  refine w_166 ?_
  rw [sd_mod h0]
  exact ⟨fun z => absurd ((of_z (by omega)).mp z) (by omega), hK⟩
theorem le0 {n : Nat} (hn : n ≤ 12) : (Int32.ofNat n ≤ 0) ↔ n = 0 := by
  have l0 : (0 : Int32).toInt = 0 := rfl
  rw [Int32.le_iff_toInt_le, ti_of (by omega), l0]
  omega
theorem q_104 {L M I : Nat} {σ : St} {V : Nat → Int32} {K : St → Prop} (hL1 : 1 ≤ L) (hL : L ≤ 12) (hM : M ≤ 5) (hI4 : I ≤ 4) (e1 : σ 11 1 = Int32.ofNat L) (e2 : σ 11 2 = Int32.ofNat M) (e3 : σ 11 3 = Int32.ofNat I) (hI : Inv σ) (hV : Vc M σ V) (hK : ∀ σ', Inv σ' → (∀ k j, ¬ (19 ≤ k ∧ k ≤ 21) → σ' k j = σ k j) → Vc M σ' (chV L M I V) → K σ') : CV 104 [.ref 0] σ K := by
  have v4 := hV.2
  refine w_104 (s_51 (n := 5) (by omega) (by omega) ?_)
  rw [v4]
  have a1 := Vc_4 hV (sd (V 4))
  show (if dn (sd (V 4)) 5 = 0 then _ else (if dn (sd (V 4)) 5 = 1 then _ else (if dn (sd (V 4)) 5 = 2 then _ else _)))
  have done1 : ∀ W, W = vu V 4 (sd (V 4)) → W = chV L M I V → K (s2 σ 19 4 (sd (V 4))) := fun W h1 h2 => by
    refine hK _ (InvF hI (fun k j h => s2_ne _ _ (by omega))) (fun k j h => s2_ne _ _ (by omega)) ?_
    rw [← h2, h1]
    exact a1
  by_cases k0 : dn (sd (V 4)) 5 = 0
  · rw [if_pos k0]
    show CI 51 [.ref 19, .int (σ 11 1)] _ _
    rw [e1]
    refine s_51 hL1 hL ?_
    have a2 := Vc_j (Vc_4 a1 (sd (sd (V 4)))) (Or.inl rfl : (0 : Nat) = 0 ∨ (0 : Nat) = 1) (V 0 ^^^ shl1 (dn (sd (sd (V 4))) (Int32.ofNat L)))
    have v0 : σ 19 0 = V 0 := hV.1 0 (Or.inl rfl)
    have g : K (s2 (s2 (s2 σ 19 4 (sd (V 4))) 19 4 (sd (sd (V 4)))) 19 0 (V 0 ^^^ shl1 (dn (sd (sd (V 4))) (Int32.ofNat L)))) := by
      refine hK _ (InvF hI (fun k j h => ?_)) (fun k j h => ?_) ?_
      · rw [s2_ne _ _ (by omega), s2_ne _ _ (by omega), s2_ne _ _ (by omega)]
      · rw [s2_ne _ _ (by omega), s2_ne _ _ (by omega), s2_ne _ _ (by omega)]
      · unfold chV; rw [if_pos k0]; exact a2
    rw [← v0] at g
    exact g
  · rw [if_neg k0]
    by_cases k1 : dn (sd (V 4)) 5 = 1
    · rw [if_pos k1]
      show (if σ 11 2 ≤ 0 then _ else CI 51 [.ref 19, .int (σ 11 2)] _ _)
      rw [e2]
      by_cases m0 : M = 0
      · rw [if_pos ((le0 (by omega)).mpr m0)]
        have := done1 _ rfl (by unfold chV; rw [if_neg k0, if_pos k1, if_pos m0])
        split
        · exact this
        · exact this
      · rw [if_neg (fun z => m0 ((le0 (by omega)).mp z))]
        refine s_51 (by omega) (by omega) ?_
        show CI 51 [.ref 19, .int (σ 11 1)] _ _
        rw [e1]
        refine s_51 hL1 hL ?_
        have rm : inR M (dn (sd (sd (V 4))) (Int32.ofNat M)) := dn_in (sd_nn _) (by omega) (by omega)
        refine s_86 (n := M) e2 hM ?_
        have h10 : (if inR M (dn (sd (sd (V 4))) (Int32.ofNat M)) then (1 : Int32) else 0) = 1 := if_pos rm
        show (if (if inR M (dn (sd (sd (V 4))) (Int32.ofNat M)) then (1 : Int32) else 0) = 0 then _ else _)
        rw [h10, if_neg (by decide)]
        obtain ⟨m, hm, em, ec⟩ := inR_n rm
        refine ⟨by unfold inR at rm; show 0 ≤ (dn (sd (sd (V 4))) (Int32.ofNat M)).toInt ∧ (dn (sd (sd (V 4))) (Int32.ofNat M)).toInt < 5; omega, ?_⟩
        have vm : σ 20 m = V (5 + m) := by
          have := hV.1 (5 + m) (Or.inr (Or.inr ⟨by omega, by omega, by omega⟩))
          rw [cls5 (by omega)] at this
          exact this
        have a2 := Vc_s (Vc_4 (Vc_4 a1 (sd (sd (V 4)))) (sd (sd (sd (V 4))))) (show m < 5 by omega) (V (5 + m) ^^^ shl1 (dn (sd (sd (sd (V 4)))) (Int32.ofNat L)))
        have g : K (s2 (s2 (s2 (s2 σ 19 4 (sd (V 4))) 19 4 (sd (sd (V 4)))) 19 4 (sd (sd (sd (V 4))))) 20 m (V (5 + m) ^^^ shl1 (dn (sd (sd (sd (V 4)))) (Int32.ofNat L)))) := by
          refine hK _ (InvF hI (fun k j h => ?_)) (fun k j h => ?_) ?_
          · rw [s2_ne _ _ (by omega), s2_ne _ _ (by omega), s2_ne _ _ (by omega), s2_ne _ _ (by omega)]
          · rw [s2_ne _ _ (by omega), s2_ne _ _ (by omega), s2_ne _ _ (by omega), s2_ne _ _ (by omega)]
          · unfold chV; rw [if_neg k0, if_pos k1, if_neg m0, ec]; exact a2
        rw [← vm] at g
        show K (s2 _ 20 (dn (sd (sd (V 4))) (Int32.ofNat M)).toNatClampNeg ((σ 20 (dn (sd (sd (V 4))) (Int32.ofNat M)).toNatClampNeg) ^^^ _))
        rw [ec]
        exact g
    · rw [if_neg k1]
      by_cases k2 : dn (sd (V 4)) 5 = 2
      · rw [if_pos k2]
        show (if σ 11 2 ≤ 0 then _ else (if σ 11 3 ≤ 0 then _ else CI 51 [.ref 19, .int (σ 11 3)] _ _))
        rw [e2, e3]
        by_cases m0 : M = 0
        · rw [if_pos ((le0 (by omega)).mpr m0)]
          exact done1 _ rfl (by unfold chV; rw [if_neg k0, if_neg k1, if_pos k2, if_pos m0])
        · rw [if_neg (fun z => m0 ((le0 (by omega)).mp z))]
          by_cases i0 : I = 0
          · rw [if_pos ((le0 (by omega)).mpr i0)]
            exact done1 _ rfl (by unfold chV; rw [if_neg k0, if_neg k1, if_pos k2, if_neg m0, if_pos i0])
          · rw [if_neg (fun z => i0 ((le0 (by omega)).mp z))]
            refine s_51 (by omega) (by omega) ?_
            show CI 51 [.ref 19, .int (σ 11 2)] _ _
            rw [e2]
            refine s_51 (by omega) (by omega) ?_
            refine CI.pur (c := con_45) sat_45 rfl rfl (by decide) rfl rfl (by exact ⟨rfl, aI (by decide) (by decide), aI (by decide) (by decide), trivial⟩) (InvF hI (fun k j h => by rw [s2_ne _ _ (by omega), s2_ne _ _ (by omega), s2_ne _ _ (by omega)])) fun v4 => ?_
            refine o_50 fun σ5 f5 => hK _ (InvF hI (fun k j h => ?_)) (fun k j h => ?_) ?_
            · rw [f5 k j (by omega), s2_ne _ _ (by omega), s2_ne _ _ (by omega), s2_ne _ _ (by omega)]
            · rw [f5 k j (by omega), s2_ne _ _ (by omega), s2_ne _ _ (by omega), s2_ne _ _ (by omega)]
            · unfold chV; rw [if_neg k0, if_neg k1, if_pos k2, if_neg m0, if_neg i0]
              exact Vc_ex (Vc_4 (Vc_4 a1 (sd (sd (V 4)))) (sd (sd (sd (V 4))))) (fun k j _ _ h3 => f5 k j h3)
      · rw [if_neg k2]
        exact done1 _ rfl (by unfold chV; rw [if_neg k0, if_neg k1, if_neg k2])
