/-! one instruction of the checker -/
def AVR (ν : Nat → Int) (n : Nat) (av : AV) (v : Value) : Prop := match av.1 with
  | 0 => av.2 < n ∧ ∃ x : Int32, v = .int x ∧ x.toInt = ν av.2
  | 1 => av.2 < n ∧ ∃ x : Int64, v = .long x ∧ x.toInt = ν av.2
  | 2 => v = .ref av.2
  | _ => False
theorem AVR.mono {ν ν' : Nat → Int} {n n' : Nat} {av : AV} {v : Value} (h : AVR ν n av v) (hx : xt ν ν' n) (hn : n ≤ n') : AVR ν' n' av v := by
  obtain ⟨t, s⟩ := av
  match t, h with
  | 0, h => exact ⟨Nat.lt_of_lt_of_le h.1 hn, by obtain ⟨x, e1, e2⟩ := h.2; exact ⟨x, e1, by rw [hx _ h.1]; exact e2⟩⟩
  | 1, h => exact ⟨Nat.lt_of_lt_of_le h.1 hn, by obtain ⟨x, e1, e2⟩ := h.2; exact ⟨x, e1, by rw [hx _ h.1]; exact e2⟩⟩
  | 2, h => exact h
theorem AVR.i {ν : Nat → Int} {n s : Nat} {v : Value} (h : AVR ν n (0, s) v) : s < n ∧ ∃ x : Int32, v = .int x ∧ x.toInt = ν s := h
theorem AVR.l {ν : Nat → Int} {n s : Nat} {v : Value} (h : AVR ν n (1, s) v) : s < n ∧ ∃ x : Int64, v = .long x ∧ x.toInt = ν s := h
theorem AVR.r {ν : Nat → Int} {n s : Nat} {v : Value} (h : AVR ν n (2, s) v) : v = .ref s := h
theorem AVR.cat {ν : Nat → Int} {n : Nat} {av : AV} {v : Value} (h : AVR ν n av v) : v.category = acat av := by
  obtain ⟨t, s⟩ := av
  match t, h with
  | 0, h => obtain ⟨x, e1, e2⟩ := h.2; rw [e1]; rfl
  | 1, h => obtain ⟨x, e1, e2⟩ := h.2; rw [e1]; rfl
  | 2, h => rw [h.r]; rfl
theorem AVR.notL {ν : Nat → Int} {n : Nat} {av : AV} {v : Value} (h : AVR ν n av v) (hn : Nat.beq av.1 1 = false) : isL (some (some v)) = false := by
  obtain ⟨t, s⟩ := av
  match t, h, hn with
  | 0, h, _ => obtain ⟨x, e1, e2⟩ := h.2; rw [e1]; rfl
  | 1, h, hn => cases hn
  | 2, h, _ => rw [h.r]; rfl
def LvR (ν : Nat → Int) (n : Nat) (lv : ALv) (lvc : Lv) : Prop := lv.length = lvc.length ∧ ∀ (i : Nat) (av : AV), lv[i]? = some (some av) → ∃ v, lvc[i]? = some (some v) ∧ AVR ν n av v
theorem LvR.mono {ν ν' : Nat → Int} {n n' : Nat} {lv : ALv} {lvc : Lv} (h : LvR ν n lv lvc) (hx : xt ν ν' n) (hn : n ≤ n') : LvR ν' n' lv lvc := ⟨h.1, fun i av hi => by obtain ⟨v, h1, h2⟩ := h.2 i av hi; exact ⟨v, h1, h2.mono hx hn⟩⟩
theorem asl1_len (lv : ALv) (i : Nat) (av : AV) : (asl1 lv i av).length = lv.length := by
  cases i with
  | zero => simp [asl1]
  | succ j =>
    unfold asl1
    rw [List.length_set]
    split
    · rename_i w hw
      cases hb : Nat.beq w.1 1 with
      | true => rw [cond_true, List.length_set]
      | false => rw [cond_false]
    · rfl
theorem LvR.st1 {ν : Nat → Int} {n : Nat} {lv : ALv} {lvc : Lv} (h : LvR ν n lv lvc) (i : Nat) {av : AV} {v : Value} (ha : AVR ν n av v) : LvR ν n (asl1 lv i av) (sl1 lvc i v) := by
  refine ⟨by rw [asl1_len, sl1_len]; exact h.1, fun j w hj => ?_⟩
  have hlt : j < lv.length := by rw [← asl1_len lv i av]; exact (List.getElem?_eq_some_iff.mp hj).1
  have hltc : j < lvc.length := by rw [← h.1]; exact hlt
  cases i with
  | zero =>
    simp only [asl1, List.getElem?_set] at hj
    simp only [sl1, List.getElem?_set]
    by_cases e : 0 = j
    · rw [if_pos e, if_pos (by omega)] at hj
      rw [if_pos e, if_pos (by omega)]
      cases hj
      exact ⟨v, rfl, ha⟩
    · rw [if_neg e] at hj ⊢
      exact h.2 j w hj
  | succ k =>
    simp only [asl1, List.getElem?_set] at hj
    simp only [sl1, List.getElem?_set]
    by_cases e : k + 1 = j
    · rw [if_pos e] at hj ⊢
      have l2 : k + 1 < (bif isL lvc[k]? then lvc.set k none else lvc).length := by
        cases isL lvc[k]? <;> simp <;> omega
      rw [if_pos l2]
      obtain ⟨-, hj⟩ := if_ok hj
      cases hj
      exact ⟨v, rfl, ha⟩
    · rw [if_neg e] at hj ⊢
      by_cases ek : k = j
      · subst ek
        have hk : lv[k]? = some (some w) ∧ Nat.beq w.1 1 = false := by
          split at hj
          · rename_i w2 hw2
            cases hb : Nat.beq w2.1 1 with
            | true =>
              rw [hb, cond_true, List.getElem?_set_self hlt] at hj
              cases hj
            | false =>
              rw [hb, cond_false, hw2] at hj
              cases hj
              exact ⟨hw2, hb⟩
          · rename_i hn
            exact absurd hj (fun z => hn _ z)
        obtain ⟨v', h1, h2⟩ := h.2 k w hk.1
        refine ⟨v', ?_, h2⟩
        rw [h1, h2.notL hk.2, cond_false]
        exact h1
      · have hj2 : lv[j]? = some (some w) := by
          split at hj
          · rename_i w2 hw2
            cases hb : Nat.beq w2.1 1 with
            | true => rw [hb, cond_true, List.getElem?_set_ne ek] at hj; exact hj
            | false => rw [hb, cond_false] at hj; exact hj
          · exact hj
        obtain ⟨v', h1, h2⟩ := h.2 j w hj2
        refine ⟨v', ?_, h2⟩
        cases hb : isL lvc[k]? with
        | true => rw [cond_true, List.getElem?_set_ne ek]; exact h1
        | false => rw [cond_false]; exact h1
theorem LvR.st2 {ν : Nat → Int} {n : Nat} {lv : ALv} {lvc : Lv} (h : LvR ν n lv lvc) (i : Nat) {av : AV} {v : Value} (ha : AVR ν n av v) : LvR ν n (asl2 lv i av) (sl2 lvc i v) := by
  have h1 := h.st1 i ha
  refine ⟨by unfold asl2 sl2; rw [List.length_set, List.length_set]; exact h1.1, fun j w hj => ?_⟩
  unfold asl2 at hj
  unfold sl2
  rw [List.getElem?_set] at hj ⊢
  by_cases e : i + 1 = j
  · rw [if_pos e] at hj
    split at hj <;> cases hj
  · rw [if_neg e] at hj ⊢
    exact h1.2 j w hj
def StR (ν : Nat → Int) (n : Nat) : List AV → List Value → Prop
  | [], [] => True
  | a :: t, v :: u => AVR ν n a v ∧ StR ν n t u
  | _, _ => False
theorem StR.mono {ν ν' : Nat → Int} {n n' : Nat} (hx : xt ν ν' n) (hn : n ≤ n') : ∀ {st : List AV} {stc : List Value}, StR ν n st stc → StR ν' n' st stc
  | [], [], _ => trivial
  | _ :: _, _ :: _, h => ⟨h.1.mono hx hn, StR.mono hx hn h.2⟩
theorem StR.cons {ν : Nat → Int} {n : Nat} {a : AV} {t : List AV} {stc : List Value} (h : StR ν n (a :: t) stc) : ∃ v u, stc = v :: u ∧ AVR ν n a v ∧ StR ν n t u := by
  match stc, h with
  | v :: u, h => exact ⟨v, u, rfl, h.1, h.2⟩
theorem StR.nil {ν : Nat → Int} {n : Nat} {stc : List Value} (h : StR ν n [] stc) : stc = [] := by
  match stc, h with
  | [], _ => rfl
theorem StR.sum {ν : Nat → Int} {n : Nat} : ∀ {st : List AV} {stc : List Value}, StR ν n st stc → (stc.map fun v => v.category).sum = (st.map acat).sum
  | [], [], _ => rfl
  | _ :: _, _ :: _, h => by simp only [List.map_cons, List.sum_cons, h.1.cat, StR.sum h.2]
def FrM (md : List (Nat × Nat)) (am : List Nat) (σ0 σ : St) : Prop := ∀ k j : Nat, inP md k j = false → inN1 am k = false → σ k j = σ0 k j
theorem a1_ok {st : List AV} {t : Nat} {f : Nat → List AV → Option Ars} {q : Ars} (h : a1 st t f = some q) : ∃ s r, st = (t, s) :: r ∧ f s r = some q := by
  unfold a1 at h
  split at h
  · rename_i av r
    cases hb : Nat.beq av.1 t with
    | true =>
      rw [hb] at h
      have e := Nat.eq_of_beq_eq_true hb
      exact ⟨av.2, r, by rw [← e], h⟩
    | false => rw [hb] at h; cases h
  · cases h
theorem agt_ok {lv : ALv} {k t : Nat} {av : AV} (h : agt lv k t = some av) : lv[k]? = some (some av) ∧ av.1 = t := by
  unfold agt at h
  split at h
  · rename_i w hw
    cases hb : Nat.beq w.1 t with
    | true => rw [hb] at h; cases h; exact ⟨hw, Nat.eq_of_beq_eq_true hb⟩
    | false => rw [hb] at h; cases h
  · cases h
theorem rdX_ne {X : Scr} {σ : St} {a j : Nat} (h : a ≠ 1000) : rdX X σ a j = σ a j := by
  unfold rdX
  split
  · rw [if_neg h]
  · rfl
theorem idx_in {x : Int32} {n : Nat} (h0 : 0 ≤ x.toInt) (h1 : x.toInt < n) : inN x n = true ∧ x.toNatClampNeg = x.toInt.toNat := by
  have e : x.toNatClampNeg = x.toInt.toNat := rfl
  refine ⟨?_, e⟩
  unfold inN
  rw [decide_eq_true_eq, e]
  rintro (z | z)
  · rw [Int32.lt_iff_toInt_lt] at z
    have : (0 : Int32).toInt = 0 := rfl
    omega
  · omega
theorem sub_ok {lo hi lo' hi' : Int} (h : sub lo hi lo' hi' = true) : lo' ≤ lo ∧ hi ≤ hi' := by
  unfold sub at h
  rw [Bool.and_eq_true, decide_eq_true_eq, decide_eq_true_eq] at h
  exact h
theorem fold_mm (l : List (Nat × Int × Int)) : ∀ r : Int × Int, (l.foldl (fun r z => (min r.1 z.2.1, max r.2 z.2.2)) r).1 ≤ r.1 ∧ r.2 ≤ (l.foldl (fun r z => (min r.1 z.2.1, max r.2 z.2.2)) r).2 ∧ ∀ z ∈ l, (l.foldl (fun r z => (min r.1 z.2.1, max r.2 z.2.2)) r).1 ≤ z.2.1 ∧ z.2.2 ≤ (l.foldl (fun r z => (min r.1 z.2.1, max r.2 z.2.2)) r).2 := by
  induction l with
  | nil => intro r; exact ⟨Int.le_refl _, Int.le_refl _, fun z h => by cases h⟩
  | cons q t ih =>
    intro r
    obtain ⟨h1, h2, h3⟩ := ih (min r.1 q.2.1, max r.2 q.2.2)
    rw [List.foldl_cons]
    dsimp only at h1 h2 h3 ⊢
    refine ⟨by omega, by omega, fun z hz => ?_⟩
    rcases List.mem_cons.mp hz with e | hz
    · rw [e]; constructor <;> omega
    · exact h3 z hz
theorem ivAll_ok (k j : Nat) : (ivAll k).1 ≤ (iv k j).1 ∧ (iv k j).2 ≤ (ivAll k).2 := by
  unfold ivAll iv
  cases hq : pk tiv k with
  | none => exact ⟨Int.le_refl _, Int.le_refl _⟩
  | some q =>
    dsimp only
    obtain ⟨h1, h2, h3⟩ := fold_mm q.1 q.2
    cases hr : pk q.1 j with
    | none => exact ⟨h1, h2⟩
    | some r => exact h3 (j, r) (pkn_mem hr)
theorem ivr_ok {k j : Nat} {l h : Int} (h1 : l ≤ (j : Int)) (h2 : (j : Int) ≤ h) : (ivr k l h).1 ≤ (iv k j).1 ∧ (iv k j).2 ≤ (ivr k l h).2 := by
  unfold ivr
  split
  · rename_i e
    have : l.toNat = j := by omega
    rw [this]; exact ⟨Int.le_refl _, Int.le_refl _⟩
  · exact ivAll_ok k j
theorem okSt_ok {k j : Nat} {l h lo hi v : Int} (hk : okSt k l h lo hi = true) (h1 : l ≤ (j : Int)) (h2 : (j : Int) ≤ h) (h3 : lo ≤ v) (h4 : v ≤ hi) : (iv k j).1 ≤ v ∧ v ≤ (iv k j).2 := by
  unfold okSt at hk
  unfold iv
  cases hq : pk tiv k with
  | none => rw [hq] at hk; have := sub_ok hk; dsimp only; omega
  | some q =>
    rw [hq] at hk
    dsimp only at hk ⊢
    rw [Bool.and_eq_true] at hk
    cases hr : pk q.1 j with
    | none => have := sub_ok hk.1; dsimp only; omega
    | some r =>
      have h5 := List.all_eq_true.mp hk.2 (j, r) (pkn_mem hr)
      rw [Bool.or_eq_true, Bool.or_eq_true, decide_eq_true_eq, decide_eq_true_eq] at h5
      rcases h5 with (h5 | h5) | h5
      · dsimp only at h5; omega
      · dsimp only at h5; omega
      · have := sub_ok h5; dsimp only at this ⊢; omega
theorem s2_self (σ : St) (k j : Nat) (v : Int32) : s2 σ k j v k j = v := by simp [s2, sr, upd]
theorem s2_ne (σ : St) {k j a b : Nat} (v : Int32) (h : ¬ (a = k ∧ b = j)) : s2 σ k j v a b = σ a b := by
  unfold s2 sr
  by_cases e : a = k
  · subst e
    have : ¬ b = j := fun e => h ⟨rfl, e⟩
    simp [upd, this]
  · simp [e]
theorem beq_ff {a b : Nat} (h : ¬ a = b) : Nat.beq a b = false := by
  cases hb : Nat.beq a b with
  | true => exact absurd (Nat.eq_of_beq_eq_true hb) h
  | false => rfl
theorem inP_mem {l : List (Nat × Nat)} {a j : Nat} (h : inP l a j = false) (hm : (a, j) ∈ l) : False := by
  have : inP l a j = true := List.any_eq_true.mpr ⟨(a, j), hm, by rw [Nat.beq_refl, Nat.beq_refl]; rfl⟩
  rw [this] at h; cases h
theorem inN1_mem {l : List Nat} {a : Nat} (h : inN1 l a = false) (hm : a ∈ l) : False := by
  have : inN1 l a = true := List.any_eq_true.mpr ⟨a, hm, Nat.beq_refl a⟩
  rw [this] at h; cases h
/-- a slot is put -/
theorem putS_ok {X : Scr} {ν : Nat → Int} {K : Kn} {σ : St} (h : vOK X ν K σ) (hI : Inv σ) {a k s ci : Nat} {fl : List (Option Nat)} {v : Int32} (hl : lay[a]? = some (.inr (ci, fl))) (hs : s < kN K) (hv : v.toInt = ν s) : vOK X ν (putS K a k s) (s2 σ a k v) := by
  obtain ⟨hE, hG, hD, hC, hA, hg⟩ := id h
  have naA : ∀ b z n, lay[b]? = some (.inl (z, n)) → b ≠ a := fun b z n hb e => by rw [e, hl] at hb; cases hb
  have nA : gA ≠ a := naA gA false 12 rfl
  have nB : gB ≠ a := naA gB false 12 rfl
  refine ⟨hE, hG, hD, fun q hq => ?_, fun q hq => ?_, fun hg' => ?_⟩
  · rcases List.mem_cons.mp hq with e | hq
    · rw [e]; exact ⟨hs, by rw [s2_self, hv]⟩
    · obtain ⟨q1, q2⟩ := List.mem_filter.mp hq
      obtain ⟨x1, x2⟩ := hC q q1
      refine ⟨x1, ?_⟩
      rw [s2_ne]
      · exact x2
      · rintro ⟨e1, e2⟩
        rw [e1, e2, Nat.beq_refl, Nat.beq_refl] at q2
        cases q2
  · obtain ⟨q1, q2⟩ := List.mem_filter.mp hq
    obtain ⟨x1, x2, x3, x4⟩ := hA q q1
    refine ⟨x1, x2, x3, ?_⟩
    have ne : ¬ q.1.1 = a := fun e => by rw [e, Nat.beq_refl] at q2; cases q2
    rw [x4]
    unfold rdX
    split
    · split
      · rfl
      · rw [s2_ne _ _ (fun z => ne z.1)]
    · rw [s2_ne _ _ (fun z => ne z.1)]
  · have hg' : gput K a k s = true := hg'
    unfold gput at hg'
    intro l hlt
    rw [s2_ne (a := gA) _ _ (fun z => nA z.1), s2_ne (a := gB) _ _ (fun z => nB z.1)]
    by_cases cL : a = gO ∧ k = gL
    · rw [if_pos cL] at hg'
      obtain ⟨e1, e2⟩ := cL
      have hP : s2 σ a k v gO gP = σ gO gP := s2_ne _ _ (fun z => by have := z.2; rw [e2] at this; revert this; decide)
      rw [hP]
      rw [e1, e2, s2_self] at hlt
      rw [Bool.or_eq_true] at hg'
      rcases hg' with hg' | hg'
      · split at hg'
        · rename_i p hp
          have h1 := kiv_ok h hp
          have h2 := of_decide_eq_true hg'
          omega
        · cases hg'
      · rw [Bool.and_eq_true] at hg'
        obtain ⟨g1, g2⟩ := hg'
        split at g2
        · rename_i L P hL hPp
          rw [Bool.and_eq_true] at g2
          obtain ⟨g3, g4⟩ := g2
          split at g4
          · rename_i x z hxA hzB
            rw [Bool.and_eq_true] at g4
            have f1 := geq_ok h g3
            have f2 := geq_ok h g4.1
            have f3 := geq_ok h g4.2
            obtain ⟨-, eL⟩ := hC _ (clk_mem hL)
            obtain ⟨-, eP⟩ := hC _ (clk_mem hPp)
            obtain ⟨-, -, pos, eA⟩ := hA _ (clk_mem hxA)
            obtain ⟨-, -, -, eB⟩ := hA _ (clk_mem hzB)
            dsimp only at eL eP eA eB pos
            rw [rdX_ne (by decide)] at eA eB
            by_cases c : (l : Int) < ν L
            · rw [eL] at c
              exact hg g1 l c
            · have e : (ν L).toNat = l := by omega
              rw [e] at eA eB
              rw [← eA, ← eB, ← eP]
              omega
          · cases g4
        · cases g2
    · rw [if_neg cL] at hg'
      have hL : s2 σ a k v gO gL = σ gO gL := s2_ne _ _ (fun z => cL ⟨z.1.symm, z.2.symm⟩)
      rw [hL] at hlt
      by_cases cP : a = gO ∧ k = gP
      · rw [if_pos cP] at hg'
        rw [Bool.or_eq_true] at hg'
        rcases hg' with hg' | hg'
        · split at hg'
          · rename_i L hLc
            obtain ⟨-, eL⟩ := hC _ (clk_mem hLc)
            split at hg'
            · rename_i p hp
              have h1 := kiv_ok h hp
              have h2 := of_decide_eq_true hg'
              dsimp only at eL
              omega
            · cases hg'
          · cases hg'
        · rw [Bool.and_eq_true] at hg'
          obtain ⟨g1, g2⟩ := hg'
          split at g2
          · rename_i P hPc
            obtain ⟨-, eP⟩ := hC _ (clk_mem hPc)
            split at g2
            · rename_i p hp
              have h1 := kiv_ok h hp
              have h2 := of_decide_eq_true g2
              have h3 := (hg g1 l hlt).1
              have h4 := (hI.1 gA l).1
              have h5 : (iv gA l).1 = 0 := rfl
              dsimp only at eP
              omega
            · cases g2
          · cases g2
      · rw [if_neg cP] at hg'
        have hP : s2 σ a k v gO gP = σ gO gP := s2_ne _ _ (fun z => cP ⟨z.1.symm, z.2.symm⟩)
        rw [hP]
        exact hg hg' l hlt
theorem Inv.putS {σ : St} (hI : Inv σ) {a k ci : Nat} {fl : List (Option Nat)} {v : Int32} (hl : lay[a]? = some (.inr (ci, fl))) (h1 : (iv a k).1 ≤ v.toInt) (h2 : v.toInt ≤ (iv a k).2) (hp : inP prS a k = false) : Inv (s2 σ a k v) := by
  have naA : ∀ b z n, lay[b]? = some (.inl (z, n)) → b ≠ a := fun b z n hb e => by rw [e, hl] at hb; cases hb
  have nA : qA ≠ a := naA qA false 12 rfl
  have nB : qB ≠ a := naA qB false 12 rfl
  refine ⟨fun x j => ?_, fun l hlt => ?_⟩
  · by_cases c : x = a ∧ j = k
    · rw [c.1, c.2, s2_self]; exact ⟨h1, h2⟩
    · rw [s2_ne _ _ c]; exact hI.1 x j
  · have eL : s2 σ a k v qO qL = σ qO qL := s2_ne _ _ (fun z => inP_mem hp (by rw [← z.1, ← z.2]; exact List.mem_cons_of_mem _ List.mem_cons_self))
    have eP : s2 σ a k v qO qP = σ qO qP := s2_ne _ _ (fun z => inP_mem hp (by rw [← z.1, ← z.2]; exact List.mem_cons_self))
    rw [eL] at hlt
    rw [eP, s2_ne (a := qA) _ _ (fun z => nA z.1), s2_ne (a := qB) _ _ (fun z => nB z.1)]
    exact hI.2 l hlt
/-- an element is put -/
theorem putA_ok {X : Scr} {ν : Nat → Int} {K : Kn} {σ : St} (h : vOK X ν K σ) {a i s n : Nat} {z : Bool} {v : Int32} (hl : lay[a]? = some (.inl (z, n))) (hi : i < kN K) (h0 : 0 ≤ ν i) (hs : s < kN K) (hv : v.toInt = ν s) : vOK X ν (putA K a i s) (s2 σ a (ν i).toNat v) := by
  obtain ⟨hE, hG, hD, hC, hA, hg⟩ := id h
  have nO : gO ≠ a := fun e => by rw [← e] at hl; have : lay[gO]? = some (.inl (z, n)) := hl; cases this
  have n1000 : a ≠ 1000 := fun e => by rw [e] at hl; have : lay[1000]? = some (.inl (z, n)) := hl; cases this
  refine ⟨hE, hG, hD, fun q hq => ?_, fun q hq => ?_, fun hg' => ?_⟩
  · obtain ⟨q1, q2⟩ := List.mem_filter.mp hq
    obtain ⟨x1, x2⟩ := hC q q1
    have ne : ¬ q.1.1 = a := fun e => by rw [e, Nat.beq_refl] at q2; cases q2
    refine ⟨x1, ?_⟩
    rw [s2_ne _ _ (fun z => ne z.1)]
    exact x2
  · rcases List.mem_cons.mp hq with e | hq
    · rw [e]; refine ⟨hi, hs, h0, ?_⟩
      dsimp only
      rw [rdX_ne n1000, s2_self, hv]
    · obtain ⟨q1, q2⟩ := List.mem_filter.mp hq
      obtain ⟨x1, x2, x3, x4⟩ := hA q q1
      refine ⟨x1, x2, x3, ?_⟩
      have ne : ¬ q.1.1 = a := fun e => by rw [e, Nat.beq_refl] at q2; cases q2
      rw [x4]
      unfold rdX
      split
      · split
        · rfl
        · rw [s2_ne _ _ (fun z => ne z.1)]
      · rw [s2_ne _ _ (fun z => ne z.1)]
  · have hg' : gast K a i = true := hg'
    unfold gast at hg'
    intro l hlt
    rw [s2_ne (a := gO) _ _ (fun z => nO z.1)] at hlt
    rw [s2_ne (a := gO) _ _ (fun z => nO z.1)]
    by_cases c : a = gA ∨ a = gB
    · rw [if_pos c, Bool.and_eq_true] at hg'
      obtain ⟨g1, g2⟩ := hg'
      split at g2
      · rename_i L hL
        have f1 := geq_ok h g2
        obtain ⟨-, eL⟩ := hC _ (clk_mem hL)
        dsimp only at eL
        have ne : ¬ l = (ν i).toNat := by omega
        rw [s2_ne (a := gA) _ _ (fun z => ne z.2), s2_ne (a := gB) _ _ (fun z => ne z.2)]
        exact hg g1 l hlt
      · cases g2
    · rw [if_neg c] at hg'
      rw [s2_ne (a := gA) _ _ (fun z => c (Or.inl z.1.symm)), s2_ne (a := gB) _ _ (fun z => c (Or.inr z.1.symm))]
      exact hg hg' l hlt
theorem Inv.putA {σ : St} (hI : Inv σ) {a k n : Nat} {z : Bool} {v : Int32} (hl : lay[a]? = some (.inl (z, n))) (h1 : (iv a k).1 ≤ v.toInt) (h2 : v.toInt ≤ (iv a k).2) (hp : inN1 prA a = false) : Inv (s2 σ a k v) := by
  have nO : qO ≠ a := fun e => by rw [← e] at hl; have : lay[qO]? = some (.inl (z, n)) := hl; cases this
  have nA : qA ≠ a := fun e => inN1_mem hp (by rw [← e]; exact List.mem_cons_self)
  have nB : qB ≠ a := fun e => inN1_mem hp (by rw [← e]; exact List.mem_cons_of_mem _ List.mem_cons_self)
  refine ⟨fun x j => ?_, fun l hlt => ?_⟩
  · by_cases c : x = a ∧ j = k
    · rw [c.1, c.2, s2_self]; exact ⟨h1, h2⟩
    · rw [s2_ne _ _ c]; exact hI.1 x j
  · rw [s2_ne (a := qO) _ _ (fun z => nO z.1)] at hlt
    rw [s2_ne (a := qO) _ _ (fun z => nO z.1), s2_ne (a := qA) _ _ (fun z => nA z.1), s2_ne (a := qB) _ _ (fun z => nB z.1)]
    exact hI.2 l hlt
theorem FrM.putS {md : List (Nat × Nat)} {am : List Nat} {σ0 σ : St} (h : FrM md am σ0 σ) {a k : Nat} {v : Int32} (hm : inP md a k = true ∨ inN1 am a = true) : FrM md am σ0 (s2 σ a k v) := by
  intro x j h1 h2
  rw [s2_ne]
  · exact h x j h1 h2
  · rintro ⟨e1, e2⟩
    rw [← e1, ← e2] at hm
    rcases hm with hm | hm
    · rw [hm] at h1; cases h1
    · rw [hm] at h2; cases h2
