/-! all of the state: what is owed, paid, who fell -/
abbrev D1 (M c : Nat) : Prop := c < 15 ∧ ¬ c = 4 ∧ (5 ≤ c → c < 10 → c < 5 + M) ∧ (10 ≤ c → c < 10 + M)
theorem HD1 : HD D1 := ⟨fun _ _ h => ⟨h.1, h.2.1, h.2.2.1⟩, fun M c h => by unfold D1; unfold D0 at h; omega⟩
theorem cls_19 {σ : St} {j : Nat} (hj : j < 5) (w : Int32) : cls (s2 σ 19 j w) = vu (cls σ) j w := by
  funext c
  show _ = if c = j then w else cls σ c
  unfold cls
  by_cases e : c = j
  · rw [if_pos e, if_pos (by omega), e, s2_self]
  · rw [if_neg e]
    split
    · exact s2_ne _ _ (by omega)
    · split
      · exact s2_ne _ _ (by omega)
      · exact s2_ne _ _ (by omega)
theorem cls_20 {σ : St} {k : Nat} (hk : k < 5) (w : Int32) : cls (s2 σ 20 k w) = vu (cls σ) (5 + k) w := by
  funext c
  show _ = if c = 5 + k then w else cls σ c
  by_cases e : c = 5 + k
  · rw [if_pos e, e, cls5 hk, s2_self]
  · rw [if_neg e]
    unfold cls
    split
    · exact s2_ne _ _ (by omega)
    · split
      · exact s2_ne _ _ (by omega)
      · exact s2_ne _ _ (by omega)
theorem cls10 {σ : St} {k : Nat} : cls σ (10 + k) = σ 21 k := by
  unfold cls
  rw [if_neg (by omega), if_neg (by omega)]
  congr 1
  omega
theorem cls_21 {σ : St} {k : Nat} (w : Int32) : cls (s2 σ 21 k w) = vu (cls σ) (10 + k) w := by
  funext c
  show _ = if c = 10 + k then w else cls σ c
  by_cases e : c = 10 + k
  · rw [if_pos e, e, cls10, s2_self]
  · rw [if_neg e]
    unfold cls
    split
    · exact s2_ne _ _ (by omega)
    · split
      · exact s2_ne _ _ (by omega)
      · exact s2_ne _ _ (by omega)
theorem cls_fx {σ σ' : St} (h : ∀ k j, 19 ≤ k → k ≤ 21 → σ' k j = σ k j) : cls σ' = cls σ := funext fun c => cls_ex h c
/-- the reference's cells, in the class's order -/
def rcl (σ : St) (c : Nat) : Int32 := if c = 4 then σ 39 12 else σ 46 (mu c)
abbrev Ds (M c : Nat) : Prop := c < 15 ∧ (5 ≤ c → c < 10 → c < 5 + M) ∧ (10 ≤ c → c < 10 + M)
def Vm1 (M : Nat) (σ : St) (V : Nat → Int32) : Prop := ∀ c, Ds M c → rcl σ c = V c
theorem mu10 {k : Nat} : mu (10 + k) = 5 + k := by
  have : 10 + k = 5 + (5 + k) := by omega
  rw [this, mu5]
theorem Vm1.s {M m : Nat} {σ : St} {V : Nat → Int32} (h : Vm1 M σ V) (hM : M ≤ 5) (hm : m < M) : σ 46 m = V (5 + m) := by
  have := h (5 + m) (by unfold Ds; omega)
  unfold rcl at this
  rw [if_neg (by omega), mu5] at this
  exact this
theorem Vm1.o {M m : Nat} {σ : St} {V : Nat → Int32} (h : Vm1 M σ V) (hM : M ≤ 5) (hm : m < M) : σ 46 (5 + m) = V (10 + m) := by
  have := h (10 + m) (by unfold Ds; omega)
  unfold rcl at this
  rw [if_neg (by omega), mu10] at this
  exact this
theorem Vm1.c {M : Nat} {σ : St} {V : Nat → Int32} (h : Vm1 M σ V) : σ 46 10 = V 0 ∧ σ 46 13 = V 1 ∧ σ 46 11 = V 2 ∧ σ 46 12 = V 3 ∧ σ 39 12 = V 4 :=
  ⟨h 0 (by unfold Ds; omega), h 1 (by unfold Ds; omega), h 2 (by unfold Ds; omega), h 3 (by unfold Ds; omega), h 4 (by unfold Ds; omega)⟩
theorem Vm1.ex {M : Nat} {σ σ' : St} {V : Nat → Int32} (h : Vm1 M σ V) (e : ∀ j, σ' 46 j = σ 46 j) (e2 : σ' 39 12 = σ 39 12) : Vm1 M σ' V := fun c hc => by
  rw [← h c hc]
  unfold rcl
  rw [e, e2]
theorem Vm1.u {M c0 j : Nat} {σ : St} {V : Nat → Int32} (h : Vm1 M σ V) (hc : c0 < 15) (h4 : ¬ c0 = 4) (hj : mu c0 = j) (w : Int32) : Vm1 M (s2 σ 46 j w) (vu V c0 w) := fun c hcs => by
  have c15 := hcs.1
  show _ = if c = c0 then w else V c
  unfold rcl
  by_cases e : c = c0
  · rw [if_pos e, if_neg (by omega), e, hj, s2_self]
  · rw [if_neg e, ← h c hcs]
    unfold rcl
    by_cases e4 : c = 4
    · rw [if_pos e4, if_pos e4, s2_ne _ _ (by omega)]
    · rw [if_neg e4, if_neg e4, s2_ne _ _ (fun z => e (mu_inj c15 hc e4 h4 (z.2.trans hj.symm)))]
theorem Vm1.d {M : Nat} {σ : St} {V : Nat → Int32} (h : Vm1 M σ V) (w : Int32) : Vm1 M (s2 σ 39 12 w) (vu V 4 w) := fun c hcs => by
  show _ = if c = 4 then w else V c
  unfold rcl
  by_cases e : c = 4
  · rw [if_pos e, if_pos e, s2_self]
  · rw [if_neg e, if_neg e, s2_ne _ _ (by omega), ← h c hcs]
    unfold rcl
    rw [if_neg e]
/-- more is owed -/
def owV (V : Nat → Int32) (m : Nat) (w : Int32) : Nat → Int32 := vu V (10 + m) (if V (10 + m) + w < 99999 then V (10 + m) + w else 99999)
theorem vu_s (V : Nat → Int32) (j : Nat) (w : Int32) : vu V j w j = w := if_pos rfl
theorem vu_n {V : Nat → Int32} {j c : Nat} (h : ¬ c = j) (w : Int32) : vu V j w c = V c := if_neg h
theorem s_50c {σ : St} {m : Nat} {w : Int32} {K : St → Prop} (hm : m < 5) (hK : ∀ σ', (∀ k j, ¬ k = 21 → σ' k j = σ k j) → cls σ' = owV (cls σ) m w → K σ') : CV 50 [.ref 19, .int (Int32.ofNat m), .int w] σ K := by
  have l0 : (0 : Int32).toInt = 0 := rfl
  have l5 : (5 : Int32).toInt = 5 := rfl
  refine w_50 ?_
  rw [if_neg (by rw [Int32.lt_iff_toInt_lt, ti_of (by omega), l0]; omega), if_neg (by rw [Int32.le_iff_toInt_le, ti_of (by omega), l5]; omega), tc_of (by omega)]
  refine ⟨by rw [ti_of (by omega)]; omega, hK _ (fun k j h => s2_ne _ _ (fun z => h z.1)) ?_⟩
  rw [cls_21]
  unfold owV
  rw [cls10]
theorem s_158m {σ : St} {M m : Nat} {w : Int32} {V : Nat → Int32} {K : St → Prop} (hM : M ≤ 5) (hm : m < M) (hV : Vm1 M σ V) (hK : ∀ σ', (∀ k j, ¬ k = 46 → σ' k j = σ k j) → Vm1 M σ' (owV V m w) → K σ') : CV 158 [.ref 39, .int (Int32.ofNat m), .int w] σ K := by
  have l5 : (5 : Int32).toInt = 5 := rfl
  have e5 : (5 + Int32.ofNat m).toInt = 5 + (m : Int) := by rw [ti_add (by rw [ti_of (by omega), l5]; omega) (by rw [ti_of (by omega), l5]; omega), ti_of (by omega), l5]
  have c5 : (5 + Int32.ofNat m).toNatClampNeg = 5 + m := by rw [tc_ti, e5]; omega
  refine w_158 ⟨by rw [e5]; omega, ?_⟩
  rw [c5, hV.o hM hm]
  have go : ∀ x, x = (if V (10 + m) + w < 99999 then V (10 + m) + w else 99999) → K (s2 σ 46 (5 + m) x) := fun x hx => by
    refine hK _ (fun k j h => s2_ne _ _ (fun z => h z.1)) ?_
    unfold owV
    rw [← hx]
    exact hV.u (by omega) (by omega) mu10 x
  by_cases c : 99999 ≤ V (10 + m) + w
  · rw [if_pos c]
    exact go _ (by rw [if_neg (by rw [Int32.lt_iff_toInt_lt]; rw [Int32.le_iff_toInt_le] at c; omega)])
  · rw [if_neg c]
    exact go _ (by rw [if_pos (by rw [Int32.lt_iff_toInt_lt]; rw [Int32.le_iff_toInt_le] at c; omega)])
/-- a day -/
def owL (P : PS) : Nat → Nat → (Nat → Int32) → Nat → Int32
  | 0, _, V => V
  | d + 1, i, V => owL P d (i + 1) (owV V i (dty P (P.2.2 3 i) (V (5 + i)) (V 0)))
def dyF (P : PS) (V : Nat → Int32) : Nat → Int32 := vu (owL P (P.1 2) 0 V) 1 (owL P (P.1 2) 0 V 1 + 1)
theorem q1_103l {P : PS} {K : St → Prop} : ∀ (d i : Nat) {σ : St}, i + d = P.1 2 → XP σ P → (∀ σ', (∀ k j, ¬ k = 21 → σ' k j = σ k j) → cls σ' = owL P d i (cls σ) → K (s2 σ' 19 1 (σ' 19 1 + 1))) → PV 103 2 [some (.ref 0), some (.int (Int32.ofNat i))] [] σ K := by
  intro d
  induction d with
  | zero =>
    intro i σ hi hx hK
    have h5 := hx.1.2.2.1
    refine w_103_2 ?_
    rw [hx.2.2.2.1, if_pos (by rw [Int32.le_iff_toInt_le, ti_of (by omega), ti_of (by omega)]; omega)]
    exact hK σ (fun _ _ _ => rfl) rfl
  | succ d ih =>
    intro i σ hi hx hK
    have h5 := hx.1.2.2.1
    refine w_103_2 ?_
    rw [hx.2.2.2.1, if_neg (by rw [Int32.le_iff_toInt_le, ti_of (by omega), ti_of (by omega)]; omega)]
    refine s_95 hx (by omega) (s_50c (by omega) fun σ2 f2 c2 => ?_)
    rw [of_s]
    refine ih (i + 1) (by omega) (XP_ex (fun k j hk => f2 k j (by omega)) hx) (fun σ' f' c' => hK σ' (fun k j h => (f' k j h).trans (f2 k j h)) ?_)
    rw [c', c2]
    show owL P d (i + 1) (owV (cls σ) i (dty P (P.2.2 3 i) (σ 20 i) (σ 19 0))) = owL P d (i + 1) (owV (cls σ) i (dty P (P.2.2 3 i) (cls σ (5 + i)) (cls σ 0)))
    rw [cls5 (by omega)]
    rfl
theorem q1_103 {P : PS} {σ : St} {K : St → Prop} (hI : Inv σ) (hx : XP σ P) (hK : ∀ σ', Inv σ' → (∀ k j, ¬ (19 ≤ k ∧ k ≤ 21) → σ' k j = σ k j) → cls σ' = dyF P (cls σ) → K σ') : CV 103 [.ref 0] σ K := by
  refine w_103 (q1_103l (P.1 2) 0 (by omega) hx (fun σ' f c => hK _ (InvF hI (fun k j h => ?_)) (fun k j h => ?_) ?_))
  · rw [s2_ne _ _ (by omega)]; exact f k j (by omega)
  · rw [s2_ne _ _ (by omega)]; exact f k j (by omega)
  · rw [cls_19 (by omega), c]
    unfold dyF
    have : σ' 19 1 = cls σ' 1 := rfl
    rw [this, c]
theorem q1_163l {P : PS} {K : St → Prop} (hb : PB P) (hq : PQd P) : ∀ (d i : Nat) {σ : St} {V : Nat → Int32}, i + d = P.1 2 → MPl σ P → Vm1 (P.1 2) σ V → (∀ σ', (∀ k j, ¬ k = 46 → σ' k j = σ k j) → Vm1 (P.1 2) σ' (owL P d i V) → K (s2 σ' 46 13 (σ' 46 13 + 1))) → PV 163 2 [some (.ref 39), some (.int (Int32.ofNat i))] [] σ K := by
  have h5 := hb.2.2.1
  intro d
  induction d with
  | zero =>
    intro i σ V hi hm hV hK
    refine w_163_2 ?_
    rw [hm.2.2.1, if_pos (by rw [Int32.le_iff_toInt_le, ti_of (by omega), ti_of (by omega)]; omega)]
    exact hK σ (fun _ _ _ => rfl) hV
  | succ d ih =>
    intro i σ V hi hm hV hK
    refine w_163_2 ?_
    rw [hm.2.2.1, if_neg (by rw [Int32.le_iff_toInt_le, ti_of (by omega), ti_of (by omega)]; omega)]
    refine s_136 hb hm hq (by omega) ?_
    rw [hV.s h5 (by omega), hV.c.1]
    refine s_158m h5 (by omega) hV fun σ2 f2 V2 => ?_
    rw [of_s]
    exact ih (i + 1) (by omega) (MPl_ex (fun k j hk => f2 k j (by omega)) hm) V2 (fun σ' f' V' => hK σ' (fun k j h => (f' k j h).trans (f2 k j h)) V')
theorem q1_163 {P : PS} {σ : St} {V : Nat → Int32} {K : St → Prop} (hb : PB P) (hq : PQd P) (hI : Inv σ) (hm : MPl σ P) (hV : Vm1 (P.1 2) σ V) (hK : ∀ σ', Inv σ' → (∀ k j, ¬ k = 46 → σ' k j = σ k j) → Vm1 (P.1 2) σ' (dyF P V) → K σ') : CV 163 [.ref 39] σ K := by
  refine w_163 (q1_163l hb hq (P.1 2) 0 (by omega) hm hV (fun σ' f V' => hK _ (InvF hI (fun k j h => ?_)) (fun k j h => ?_) ?_))
  · rw [s2_ne _ _ (by omega)]; exact f k j (by omega)
  · rw [s2_ne _ _ (by omega)]; exact f k j (by omega)
  · unfold dyF
    rw [V'.c.2.1]
    exact V'.u (c0 := 1) (j := 13) (by omega) (by omega) rfl _
/-- bits of lines that there are not -/
def BG (L M : Nat) (f : Nat → Int32) : Prop := (∀ i, L ≤ i → bt (f 0) i = false) ∧ (∀ m, m < M → ∀ i, L ≤ i → bt (f (5 + m)) i = false) ∧ (f 3).toInt ≤ 999999
theorem BG_cg {L M : Nat} {f g : Nat → Int32} (h : BG L M f) (hM : M ≤ 5) (e : ∀ c, (c = 0 ∨ c = 3 ∨ (5 ≤ c ∧ c < 10)) → g c = f c) : BG L M g := by
  refine ⟨fun i hi => by rw [e 0 (by omega)]; exact h.1 i hi, fun m hm i hi => by rw [e (5 + m) (by omega)]; exact h.2.1 m hm i hi, by rw [e 3 (by omega)]; exact h.2.2⟩
theorem owL_n {P : PS} : ∀ (d i : Nat) (V : Nat → Int32) (c : Nat), c < 10 → owL P d i V c = V c
  | 0, _, _, _, _ => rfl
  | d + 1, i, V, c, hc => by
    show owL P d (i + 1) (owV V i (dty P (P.2.2 3 i) (V (5 + i)) (V 0))) c = V c
    rw [owL_n d (i + 1) _ c hc]
    exact vu_n (by omega) _
theorem BG_dy {P : PS} {L M : Nat} {V : Nat → Int32} (hM : M ≤ 5) (h : BG L M V) : BG L M (dyF P V) := BG_cg h hM fun c hc => by
  unfold dyF
  rw [vu_n (by omega), owL_n _ _ _ _ (by omega)]
/-- what happens by draws -/
def chF (P : PS) (f : Nat → Nat) (V : Nat → Int32) : Nat → Int32 :=
  if dn (sd (V 4)) 5 = 0 then vu (vu (vu V 4 (sd (V 4))) 4 (sd (sd (V 4)))) 0 (V 0 ^^^ shl1 (dn (sd (sd (V 4))) (Int32.ofNat (P.1 1))))
  else if dn (sd (V 4)) 5 = 1 then
    (if P.1 2 = 0 then vu V 4 (sd (V 4)) else vu (vu (vu (vu V 4 (sd (V 4))) 4 (sd (sd (V 4)))) 4 (sd (sd (sd (V 4))))) (5 + (dn (sd (sd (V 4))) (Int32.ofNat (P.1 2))).toNatClampNeg) (V (5 + (dn (sd (sd (V 4))) (Int32.ofNat (P.1 2))).toNatClampNeg) ^^^ shl1 (dn (sd (sd (sd (V 4)))) (Int32.ofNat (P.1 1)))))
  else if dn (sd (V 4)) 5 = 2 then (if P.1 2 = 0 then vu V 4 (sd (V 4)) else if P.1 3 = 0 then vu V 4 (sd (V 4)) else owV (vu (vu (vu V 4 (sd (V 4))) 4 (sd (sd (V 4)))) 4 (sd (sd (sd (V 4))))) (dn (sd (sd (sd (V 4)))) (Int32.ofNat (P.1 2))).toNatClampNeg (Int32.ofNat (10 * uc f (V (5 + (dn (sd (sd (sd (V 4)))) (Int32.ofNat (P.1 2))).toNatClampNeg)) (V 0) (P.1 1) 0 (P.2.2 5 (dn (sd (sd (V 4))) (Int32.ofNat (P.1 3))).toNatClampNeg).toInt.toNat)))
  else vu V 4 (sd (V 4))
theorem b_xs {x : Int32} {k : Nat} (hk : k < 32) (i : Nat) : bt (x ^^^ shl1 (Int32.ofNat k)) i = (bt x i ^^ decide (i = k)) := by
  unfold shl1
  rw [b_xor, b_one hk]
theorem BG_ch {P : PS} {f : Nat → Nat} {V : Nat → Int32} (hb : PB P) (hL : 1 ≤ P.1 1) (h : BG (P.1 1) (P.1 2) V) : BG (P.1 1) (P.1 2) (chF P f V) := by
  have h12 := hb.2.1
  have h5 := hb.2.2.1
  unfold chF
  split
  · obtain ⟨k, hk, ek, -⟩ := inR_n (dn_in (s := sd (sd (V 4))) (n := P.1 1) (sd_nn _) hL (by omega))
    refine ⟨fun i hi => ?_, fun m hm i hi => ?_, ?_⟩
    · rw [vu_s, ek, b_xs (by omega), h.1 i hi, decide_eq_false (by omega)]; rfl
    · rw [vu_n (by omega), vu_n (by omega), vu_n (by omega)]; exact h.2.1 m hm i hi
    · rw [vu_n (by omega), vu_n (by omega), vu_n (by omega)]; exact h.2.2
  · split
    · split
      · exact BG_cg h h5 fun c hc => vu_n (by omega) _
      · rename_i m0
        obtain ⟨k, hk, ek, -⟩ := inR_n (dn_in (s := sd (sd (sd (V 4)))) (n := P.1 1) (sd_nn _) hL (by omega))
        obtain ⟨m', hm', -, em⟩ := inR_n (dn_in (s := sd (sd (V 4))) (n := P.1 2) (sd_nn _) (by omega) (by omega))
        rw [ek, em]
        refine ⟨fun i hi => ?_, fun m hm i hi => ?_, ?_⟩
        · rw [vu_n (by omega), vu_n (by omega), vu_n (by omega), vu_n (by omega)]; exact h.1 i hi
        · by_cases e : m = m'
          · rw [e, vu_s, b_xs (by omega), h.2.1 m' hm' i hi, decide_eq_false (by omega)]; rfl
          · rw [vu_n (by omega), vu_n (by omega), vu_n (by omega), vu_n (by omega)]; exact h.2.1 m hm i hi
        · rw [vu_n (by omega), vu_n (by omega), vu_n (by omega), vu_n (by omega)]; exact h.2.2
    · split
      · split
        · exact BG_cg h h5 fun c hc => vu_n (by omega) _
        · split
          · exact BG_cg h h5 fun c hc => vu_n (by omega) _
          · refine BG_cg h h5 fun c hc => ?_
            unfold owV
            rw [vu_n (by omega), vu_n (by omega), vu_n (by omega), vu_n (by omega)]
      · exact BG_cg h h5 fun c hc => vu_n (by omega) _
