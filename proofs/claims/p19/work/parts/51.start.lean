/-! what the constructors make is the pure machine's first store -/
def nzt : List (Nat × List (Nat × Int32)) := [(0, [(10, -1)]), (1, [(2, -1)]), (22, [(0, 16)]), (25, [(0, 2)]), (39, [(15, -1)])]
def prm (k : Nat) : Nat := if k = 22 then 23 else if k = 23 then 24 else if k = 24 then 22 else k
theorem prm_inj {i j : Nat} (h : prm i = prm j) : i = j := by
  unfold prm at h
  repeat' split at h
  all_goals omega
def sg0 (k j : Nat) : Int32 := match pk nzt k with
  | none => 0
  | some l => match pk l j with
    | some v => v
    | none => 0
def okF (k : Nat) : Nat → List (Option Nat) → List Value → Bool
  | _, [], [] => true
  | j, none :: t, .int v :: u => decide (sg0 k j = v) && okF k (j + 1) t u
  | j, some d :: t, .ref a :: u => Nat.beq (prm d) a && okF k (j + 1) t u
  | _, _, _ => false
def okC (cs : List CE) (k : Nat) : Bool := match lay[k]?, cs[prm k]? with
  | some (.inl (z, n)), some (.inl (z', n')) => (z == z') && Nat.beq n n' && (pk nzt k).isNone
  | some (.inr (ci, fl)), some (.inr (ci', fs)) => Nat.beq ci ci' && okF k 0 fl fs
  | _, _ => false
def okV (lv : Lv) : Bool := match lv with
  | [some (.ref a), some (.ref b), some (.ref c), some (.int d)] => Nat.beq a 1000 && Nat.beq b 0 && Nat.beq c 39 && decide (d = 0)
  | _ => false
def okLaw : Bool := match kgo 400 11 (kST 11) 0 (kent 11 [.ref 1000]) [] [] 0 0 with
  | some (_, lv, st, cs, ce, sl) => okV lv && st.isEmpty && Nat.ble ce 600000 && Nat.ble sl 7302250 && (List.range lay.length).all (okC cs)
  | none => false
set_option maxRecDepth 20000 in
theorem okLaw_ok : okLaw = true := by decide +kernel
theorem okV_ok {lv : Lv} (h : okV lv = true) : lv = [some (.ref 1000), some (.ref 0), some (.ref 39), some (.int 0)] := by
  unfold okV at h
  split at h
  · simp only [Bool.and_eq_true, decide_eq_true_eq] at h
    obtain ⟨⟨⟨h1, h2⟩, h3⟩, h4⟩ := h
    rw [Nat.eq_of_beq_eq_true h1, Nat.eq_of_beq_eq_true h2, Nat.eq_of_beq_eq_true h3, h4]
  · cases h
theorem okF_ok {ad : Nat → Nat} {k : Nat} : ∀ (fl : List (Option Nat)) (fs : List Value) (j : Nat), okF k j fl fs = true → fl.mapIdx (fun i d => wf1 (fun t => ad (prm t)) (sg0 k) (i + j) d) = fs.map (tr ad)
  | [], [], _, _ => rfl
  | none :: t, .int v :: u, j, h => by
    simp only [okF, Bool.and_eq_true, decide_eq_true_eq] at h
    have ih := okF_ok (ad := ad) t u (j + 1) h.2
    rw [List.mapIdx_cons, List.map_cons, ← ih]
    show Value.int (sg0 k (0 + j)) :: _ = Value.int v :: _
    rw [Nat.zero_add, h.1]
    congr 2
    funext i d
    rw [show i + 1 + j = i + (j + 1) by omega]
  | some d0 :: t, .ref a :: u, j, h => by
    simp only [okF, Bool.and_eq_true] at h
    have ih := okF_ok (ad := ad) t u (j + 1) h.2
    rw [List.mapIdx_cons, List.map_cons, ← ih]
    show Value.ref (ad (prm d0)) :: _ = Value.ref (ad a) :: _
    rw [Nat.eq_of_beq_eq_true h.1]
    congr 2
    funext i d
    rw [show i + 1 + j = i + (j + 1) by omega]
theorem wd_of {cI cZ : ClassId} {ad : Nat → Nat} {cs : List CE} (h : (List.range lay.length).all (okC cs) = true) : ∀ (k : Nat) (q : Nat × va_E), (wd cI cZ (fun t => ad (prm t)) sg0)[k]? = some q → (cwd cI cZ ad cs)[prm k]? = some q := by
  intro k q hq
  unfold wd at hq
  rw [List.getElem?_mapIdx] at hq
  cases hl : lay[k]? with
  | none => rw [hl] at hq; cases hq
  | some le =>
    rw [hl] at hq
    have e : (ad (prm k), wc cI cZ (fun t => ad (prm t)) (sg0 k) le) = q := Option.some.inj hq
    have hk := List.all_eq_true.mp h k (List.mem_range.mpr (List.getElem?_eq_some_iff.mp hl).1)
    unfold okC at hk
    rw [hl] at hk
    rw [← e]
    split at hk
    · rename_i z n z' n' e1 e2
      cases e1
      simp only [Bool.and_eq_true] at hk
      obtain ⟨⟨k1, k2⟩, k3⟩ := hk
      rw [cwd_get e2]
      have k1 : z = z' := by simpa using k1
      rw [← k1, ← Nat.eq_of_beq_eq_true k2]
      have e3 : sg0 k = fun _ => 0 := by
        funext j
        unfold sg0
        cases hp : pk nzt k with
        | none => rfl
        | some l => rw [hp] at k3; cases k3
      show some (ad (prm k), (Sum.inl (bif z then cZ else cI, n, .inl (fun _ => 0)) : va_E)) = some (ad (prm k), Sum.inl (bif z then cZ else cI, n, .inl (sg0 k)))
      rw [e3]
    · rename_i ci fl ci' fs e1 e2
      cases e1
      simp only [Bool.and_eq_true] at hk
      rw [cwd_get e2, ← Nat.eq_of_beq_eq_true hk.1]
      have e3 := okF_ok (ad := ad) fl fs 0 hk.2
      show some (ad (prm k), (Sum.inr (ci, fs.map (tr ad)) : va_E)) = some (ad (prm k), Sum.inr (ci, fl.mapIdx (wf1 (fun t => ad (prm t)) (sg0 k))))
      rw [← e3]
      rfl
    · cases hk
def chkI (q : Nat × List (Nat × Int × Int) × Int × Int) : Bool := q.2.1.all (fun z => decide (z.2.1 ≤ (sg0 q.1 z.1).toInt) && decide ((sg0 q.1 z.1).toInt ≤ z.2.2)) && decide (q.2.2.1 ≤ 0) && decide (0 ≤ q.2.2.2) && (match pk nzt q.1 with
  | none => true
  | some l => l.all (fun w => (pk q.2.1 w.1).isSome || (decide (q.2.2.1 ≤ w.2.toInt) && decide (w.2.toInt ≤ q.2.2.2))))
theorem chkI_ok : tiv.all chkI = true := by decide +kernel
theorem iv_sg0 : IvOK sg0 := by
  intro k j
  unfold iv
  cases hk : pk tiv k with
  | none =>
    have := rng32 (sg0 k j)
    exact ⟨this.1, this.2⟩
  | some q =>
    have hq := List.all_eq_true.mp chkI_ok _ (pkn_mem hk)
    unfold chkI at hq
    simp only [Bool.and_eq_true, decide_eq_true_eq] at hq
    obtain ⟨⟨⟨h1, h2⟩, h3⟩, h4⟩ := hq
    dsimp only
    cases hj : pk q.1 j with
    | some r =>
      have h5 := List.all_eq_true.mp h1 _ (pkn_mem hj)
      simp only [Bool.and_eq_true, decide_eq_true_eq] at h5
      exact h5
    | none =>
      dsimp only
      unfold sg0
      cases hn : pk nzt k with
      | none => exact ⟨h2, h3⟩
      | some l =>
        rw [hn] at h4
        dsimp only at h4 ⊢
        cases hv : pk l j with
        | none => exact ⟨h2, h3⟩
        | some v =>
          have h5 := List.all_eq_true.mp h4 _ (pkn_mem hv)
          dsimp only at h5
          rw [hj] at h5
          simpa using h5
theorem inv_sg0 : Inv sg0 := by
  refine ⟨iv_sg0, fun l hl => ?_⟩
  have e : (sg0 qO qL).toInt = 0 := by decide +kernel
  omega
theorem inst_ok : (List.range' 0 11).all (fun ci => match vwCl[ci]? with
  | some q => okW (kInst.getD ci 0) (.instantiable q.1 q.2.2)
  | none => false) = true := by decide +kernel
theorem va_K_of {args : Array Value} {s : State} (hts : ∀ w ∈ lw_tbl, w.before args s = true) : ∃ (dC : Nat → ClassId) (dI : Nat → Nat → Nat) (cI cZ : ClassId), va_K (dC, dI) vwCl (tyL cI cZ) s := by
  obtain ⟨cI, kI, coI, a1, a2, a3⟩ := Cond.arrayClass_spec (hts _ arrI_in)
  obtain ⟨cZ, kZ, coZ, b1, b2, b3⟩ := Cond.arrayClass_spec (hts _ arrZ_in)
  have h : ∀ ci : Nat, ∃ x : ClassId × (Nat → Nat), ∀ q : vw_C, vwCl[ci]? = some q → u_Kn s q.1 q.2.1 q.2.2 x.1 x.2 := by
    intro ci
    cases hv : vwCl[ci]? with
    | none => exact ⟨(0, fun _ => 0), fun q hq => by cases hq⟩
    | some q =>
      obtain ⟨C, T, N⟩ := q
      have hi := rng_all _ _ inst_ok ci (Nat.zero_le _) (by have := vwCl_lt hv; omega)
      rw [hv] at hi
      obtain ⟨cC, iS, hu⟩ := u_known hts (cls_ok hv).1 (hts _ (okW_mem hi))
      exact ⟨(cC, iS), fun q hq => by cases hq; exact hu⟩
  refine ⟨fun ci => (Classical.choose (h ci)).1, fun ci => (Classical.choose (h ci)).2, cI, cZ, fun ci q hq => Classical.choose_spec (h ci) q hq, fun k q hk => ?_⟩
  match k, hk with
  | 0, hk => cases hk; exact ⟨fun n z => ⟨fun k h => (by cases h), kI, a2, coI, a3⟩, a1⟩
  | 1, hk => cases hk; exact ⟨fun n z => ⟨fun k h => (by cases h), kZ, b2, coZ, b3⟩, b1⟩
  | k + 2, hk => simp [tyL] at hk
theorem NW_of {args : Array Value} {s : State} (hts : ∀ w ∈ lw_tbl, w.before args s = true) : NW s := by
  intro w hw hn
  have h := hts w hw
  cases w with
  | methodLinkNest a1 a2 a3 a4 => exact va_any rfl h
  | _ => cases hn
theorem J_sg0 : J sg0 := by
  have z : (sg0 1 1).toInt.toNat = 0 := by decide +kernel
  refine ⟨inv_sg0, ⟨by decide +kernel, fun i hi => by rw [z] at hi; exact absurd hi (Nat.not_lt_zero i)⟩, ⟨P0, ⟨P0_b, by decide +kernel, by decide +kernel, by decide +kernel, by decide +kernel, fun j hj => absurd hj (Nat.not_lt_zero j), fun j hj => absurd hj (Nat.not_lt_zero j), fun j hj => absurd hj (Nat.not_lt_zero j)⟩, ⟨by decide +kernel, by decide +kernel, by decide +kernel, by decide +kernel, fun j hj => absurd hj (Nat.not_lt_zero j), fun j hj => absurd hj (Nat.not_lt_zero j), fun j hj => absurd hj (Nat.not_lt_zero j)⟩⟩, by decide +kernel, by decide +kernel, by decide +kernel, Or.inl ⟨by decide +kernel, by decide +kernel, by decide +kernel⟩⟩
