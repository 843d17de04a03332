/-! one instruction: the pure machine's step is the machine's -/
def gw : List Jvm.Cond := lw_tbl.filter goodWord
theorem gw_mem {w : Jvm.Cond} (h : w ∈ lw_tbl) (hg : goodWord w = true) : w ∈ gw := List.mem_filter.mpr ⟨h, hg⟩
def isNst : Jvm.Cond → Bool
  | .methodLinkNest _ _ _ _ => true
  | _ => false
def NW (U : State) : Prop := ∀ w ∈ lw_tbl, isNst w = true → va_Nw w U
def tyL (cI cZ : ClassId) : List (ClassId × FieldType) := [(cI, .int), (cZ, .boolean)]
/-- what stands all through a method's body -/
def Cx (dC : Nat → ClassId) (dI : Nat → Nat → Nat) (cI cZ : ClassId) (adr : Nat → Nat) (X : Scr) (y : Nat) (p : Program) (R : Room) (s : State) (m : MethodId) (args : Array Value) (c : Code) (A : Nat → Prop) : Prop :=
  p.tables.exec = Jvm.exec ∧ c.code = mcd y ∧ c.maxLocals = mML y ∧ s.vm.findClass (mnm y).cls = some m.cls ∧ (∀ w ∈ gw, w.before args s = true) ∧ NW s ∧ mFR y ≤ R.frames ∧ mLO y ≤ R.locals ∧ va_K (dC, dI) vwCl (tyL cI cZ) s ∧ (∀ q, s.heap.size ≤ q → A q) ∧ (∀ L xs, X = some (L, xs) → va_X (adr 1000) L xs s s.heap ∧ adr 1000 < s.heap.size ∧ ¬ A (adr 1000))
theorem u_ws_good {C : String} {T : u_T} {N : Nat} (h : ∀ w ∈ u_ws C T N, w ∈ lw_tbl) : ∀ w ∈ u_ws C T N, w ∈ gw := by
  intro w hw
  refine gw_mem (h w hw) ?_
  obtain ⟨k, -, rfl⟩ := List.mem_map.mp hw
  unfold u_lay
  split <;> rfl
theorem wc_arr {cI cZ : ClassId} {adr : Nat → Nat} {f : Nat → Int32} {z : Bool} {n : Nat} : wc cI cZ adr f (.inl (z, n)) = .inl (bif z then cZ else cI, n, .inl f) := rfl
theorem wc_obj {cI cZ : ClassId} {adr : Nat → Nat} {f : Nat → Int32} {ci : Nat} {fl : List (Option Nat)} : wc cI cZ adr f (.inr (ci, fl)) = .inr (ci, fl.mapIdx (wf1 adr f)) := rfl
section StepSound
variable {p : Program} {l : Launch} {e : Env} {R : Room} {s : State} {m : MethodId} {args : Array Value} {below : List Frame} {meth : Method} {c : Code} {H : Heap} {locs : List Loc} {cells slots : Nat} {QQ : State → Prop}
variable {dC : Nat → ClassId} {dI : Nat → Nat → Nat} {cI cZ : ClassId} {adr : Nat → Nat} {X : Scr} {y : Nat} {A : Nat → Prop} {ls : Array Slot}
set_option maxHeartbeats 4000000 in
theorem stp_sound {i : Instr} {pc ln : Nat} {lv : Lv} {st : List Value} {σ : St} {q : Rs} (hi : ins y pc = some (i, ln)) (hs : stp X (mOC y) i pc lv st σ = some q)
    (cx : Cx dC dI cI cZ adr X y p R s m args c A) (hP : va_P (dC, dI) vwCl (wd cI cZ adr σ) H) (hD : va_D A (wd cI cZ adr σ)) (hS : va_S A s.heap H locs) (hL : LR adr ls (mML y) lv)
    (kk : ∀ (H' : Heap) (locs' : List Loc) (ls' : Array Slot), va_P (dC, dI) vwCl (wd cI cZ adr q.2.2.2) H' → va_D A (wd cI cZ adr q.2.2.2) → va_S A s.heap H' locs' → LR adr ls' (mML y) q.2.1 → W p l e R s m args below meth c H' locs' cells slots QQ (F0 m q.1 ls' (q.2.2.1.map (tr adr)))) :
    W p l e R s m args below meth c H locs cells slots QQ (F0 m pc ls (st.map (tr adr))) := by
  obtain ⟨hy, -, hd, hln⟩ := ins_ok hi
  obtain ⟨hx, hb, hml, hown, hts, hnw, hfr, hlo, hK, hA, hX⟩ := id cx
  have hmo := meth_ok hy
  have hon : onm.getD (mOC y) "" = (mnm y).cls := hmo.2.2.2.1
  have hlen : lv.length = mML y := hL.2.2.1
  have aD : ∀ {k : Nat} {v : Value}, lv[k]? = some (some v) → k < mML y := fun h => by rw [← hlen]; exact (List.getElem?_eq_some_iff.mp h).1
  cases i with
  | iconst n =>
    cases hs
    obtain rfl : 1 = ln := hln.resolve_right (by simp [isSw])
    exact lv_iconst hx hb hd rfl (kk H locs ls hP hD hS hL)
  | bipush n =>
    cases hs
    obtain rfl : 2 = ln := hln.resolve_right (by simp [isSw])
    exact lv_bipush hx hb hd rfl (kk H locs ls hP hD hS hL)
  | sipush n =>
    cases hs
    obtain rfl : 3 = ln := hln.resolve_right (by simp [isSw])
    exact lv_sipush hx hb hd rfl (kk H locs ls hP hD hS hL)
  | lconst n =>
    cases hs
    obtain rfl : 1 = ln := hln.resolve_right (by simp [isSw])
    exact lv_lconst hx hb hd rfl (kk H locs ls hP hD hS hL)
  | ldc idx =>
    obtain ⟨v, h1, h2⟩ := Option.bind_eq_some_iff.mp hs
    cases h2
    obtain rfl : 2 = ln := hln.resolve_right (by simp [isSw])
    exact lv_ldc hx hb hown (hts _ (gw_mem (by rw [← hon]; exact csts_ok h1) rfl)) hd (kk H locs ls hP hD hS hL)
  | ldc_w idx =>
    obtain ⟨v, h1, h2⟩ := Option.bind_eq_some_iff.mp hs
    cases h2
    obtain rfl : 3 = ln := hln.resolve_right (by simp [isSw])
    exact lv_ldcw hx hb hown (hts _ (gw_mem (by rw [← hon]; exact csts_ok h1) rfl)) hd (kk H locs ls hP hD hS hL)
  | ldc2_w idx =>
    obtain ⟨v, h1, h2⟩ := Option.bind_eq_some_iff.mp hs
    cases h2
    obtain rfl : 3 = ln := hln.resolve_right (by simp [isSw])
    exact lv_ldc2 hx hb hown (hts _ (gw_mem (by rw [← hon]; exact cstl_ok h1) rfl)) hd (kk H locs ls hP hD hS hL)
  | iload_n k =>
    obtain ⟨x, h1, h2⟩ := gi_ok hs
    cases h2
    obtain rfl : 1 = ln := hln.resolve_right (by simp [isSw])
    exact lv_iload_n hx hb hd rfl (hL.2.2.2 _ _ h1) (kk H locs ls hP hD hS hL)
  | iload k =>
    obtain ⟨x, h1, h2⟩ := gi_ok hs
    cases h2
    obtain rfl : 2 = ln := hln.resolve_right (by simp [isSw])
    exact lv_iload hx hb hd (hL.2.2.2 _ _ h1) (kk H locs ls hP hD hS hL)
  | lload_n k =>
    obtain ⟨x, h1, h2⟩ := gl_ok hs
    cases h2
    obtain rfl : 1 = ln := hln.resolve_right (by simp [isSw])
    exact lv_lload_n hx hb hd rfl (hL.2.2.2 _ _ h1) (kk H locs ls hP hD hS hL)
  | lload k =>
    obtain ⟨x, h1, h2⟩ := gl_ok hs
    cases h2
    obtain rfl : 2 = ln := hln.resolve_right (by simp [isSw])
    exact lv_lload hx hb hd (hL.2.2.2 _ _ h1) (kk H locs ls hP hD hS hL)
  | aload_n k =>
    obtain ⟨x, h1, h2⟩ := ga_ok hs
    cases h2
    obtain rfl : 1 = ln := hln.resolve_right (by simp [isSw])
    exact lv_aload_n hx hb hd rfl (hL.2.2.2 _ _ h1) (kk H locs ls hP hD hS hL)
  | aload k =>
    obtain ⟨x, h1, h2⟩ := ga_ok hs
    cases h2
    obtain rfl : 2 = ln := hln.resolve_right (by simp [isSw])
    exact lv_aload hx hb hd (hL.2.2.2 _ _ h1) (kk H locs ls hP hD hS hL)
  | istore_n k =>
    obtain ⟨x, r, rfl, h1⟩ := p1_ok hs
    obtain ⟨h2, h3⟩ := if_ok h1
    cases h3
    obtain rfl : 1 = ln := hln.resolve_right (by simp [isSw])
    exact lv_istore_n hx hb hd rfl hL.has (by rw [← hlen]; exact h2) rfl (fun ls' h' => kk H locs ls' hP hD hS (LR.st1 (v := .int x) hlen h'))
  | istore k =>
    obtain ⟨x, r, rfl, h1⟩ := p1_ok hs
    obtain ⟨h2, h3⟩ := if_ok h1
    cases h3
    obtain rfl : 2 = ln := hln.resolve_right (by simp [isSw])
    exact lv_istore hx hb hd hL.has (by rw [← hlen]; exact h2) rfl (fun ls' h' => kk H locs ls' hP hD hS (LR.st1 (v := .int x) hlen h'))
  | lstore_n k =>
    obtain ⟨x, r, rfl, h1⟩ := q1_ok hs
    obtain ⟨h2, h3⟩ := if_ok h1
    cases h3
    obtain rfl : 1 = ln := hln.resolve_right (by simp [isSw])
    exact lv_lstore_n hx hb hd rfl hL.has (by rw [← hlen]; exact h2) rfl (fun ls' h' => kk H locs ls' hP hD hS (LR.st2 (v := .long x) hlen h'))
  | lstore k =>
    obtain ⟨x, r, rfl, h1⟩ := q1_ok hs
    obtain ⟨h2, h3⟩ := if_ok h1
    cases h3
    obtain rfl : 2 = ln := hln.resolve_right (by simp [isSw])
    exact lv_lstore hx hb hd hL.has (by rw [← hlen]; exact h2) rfl (fun ls' h' => kk H locs ls' hP hD hS (LR.st2 (v := .long x) hlen h'))
  | iinc k n =>
    obtain ⟨x, h1, h2⟩ := gi_ok hs
    cases h2
    obtain rfl : 3 = ln := hln.resolve_right (by simp [isSw])
    obtain ⟨j, hj⟩ := List.getElem?_of_mem (al_mem (adr := adr) h1)
    exact lv_iinc hx hb hd hL.has hj rfl (aD h1) rfl (fun ls' h' => kk H locs ls' hP hD hS (LR.st1 (v := .int (x + Int32.ofInt n)) hlen h'))
  | iadd =>
    obtain ⟨x, z, r, rfl, h1⟩ := p2_ok hs
    cases h1
    obtain rfl : 1 = ln := hln.resolve_right (by simp [isSw])
    exact lv_iadd hx hb hd (kk H locs ls hP hD hS hL)
  | isub =>
    obtain ⟨x, z, r, rfl, h1⟩ := p2_ok hs
    cases h1
    obtain rfl : 1 = ln := hln.resolve_right (by simp [isSw])
    exact lv_isub hx hb hd (kk H locs ls hP hD hS hL)
  | imul =>
    obtain ⟨x, z, r, rfl, h1⟩ := p2_ok hs
    cases h1
    obtain rfl : 1 = ln := hln.resolve_right (by simp [isSw])
    exact lv_imul hx hb hd (kk H locs ls hP hD hS hL)
  | iand =>
    obtain ⟨x, z, r, rfl, h1⟩ := p2_ok hs
    cases h1
    obtain rfl : 1 = ln := hln.resolve_right (by simp [isSw])
    exact lv_iand hx hb hd (kk H locs ls hP hD hS hL)
  | ior =>
    obtain ⟨x, z, r, rfl, h1⟩ := p2_ok hs
    cases h1
    obtain rfl : 1 = ln := hln.resolve_right (by simp [isSw])
    exact lv_ior hx hb hd (kk H locs ls hP hD hS hL)
  | ixor =>
    obtain ⟨x, z, r, rfl, h1⟩ := p2_ok hs
    cases h1
    obtain rfl : 1 = ln := hln.resolve_right (by simp [isSw])
    exact lv_ixor hx hb hd (kk H locs ls hP hD hS hL)
  | idiv =>
    obtain ⟨x, z, r, rfl, h1⟩ := p2_ok hs
    obtain ⟨h2, h3⟩ := ifn_ok h1
    cases h3
    obtain rfl : 1 = ln := hln.resolve_right (by simp [isSw])
    exact lv_idiv hx hb hd h2 (kk H locs ls hP hD hS hL)
  | irem =>
    obtain ⟨x, z, r, rfl, h1⟩ := p2_ok hs
    obtain ⟨h2, h3⟩ := ifn_ok h1
    cases h3
    obtain rfl : 1 = ln := hln.resolve_right (by simp [isSw])
    exact lv_irem hx hb hd h2 (kk H locs ls hP hD hS hL)
  | ishl =>
    obtain ⟨x, z, r, rfl, h1⟩ := p2_ok hs
    cases h1
    obtain rfl : 1 = ln := hln.resolve_right (by simp [isSw])
    exact lv_ishl hx hb hd (kk H locs ls hP hD hS hL)
  | ishr =>
    obtain ⟨x, z, r, rfl, h1⟩ := p2_ok hs
    cases h1
    obtain rfl : 1 = ln := hln.resolve_right (by simp [isSw])
    exact lv_ishr hx hb hd (kk H locs ls hP hD hS hL)
  | iushr =>
    obtain ⟨x, z, r, rfl, h1⟩ := p2_ok hs
    cases h1
    obtain rfl : 1 = ln := hln.resolve_right (by simp [isSw])
    exact lv_iushr hx hb hd rfl (kk H locs ls hP hD hS hL)
  | i2l =>
    obtain ⟨x, r, rfl, h1⟩ := p1_ok hs
    cases h1
    obtain rfl : 1 = ln := hln.resolve_right (by simp [isSw])
    exact lv_i2l hx hb hd rfl (kk H locs ls hP hD hS hL)
  | l2i =>
    obtain ⟨x, r, rfl, h1⟩ := q1_ok hs
    cases h1
    obtain rfl : 1 = ln := hln.resolve_right (by simp [isSw])
    exact lv_l2i hx hb hd rfl (kk H locs ls hP hD hS hL)
  | ladd =>
    obtain ⟨x, z, r, rfl, h1⟩ := q2_ok hs
    cases h1
    obtain rfl : 1 = ln := hln.resolve_right (by simp [isSw])
    exact lv_ladd hx hb hd (kk H locs ls hP hD hS hL)
  | lmul =>
    obtain ⟨x, z, r, rfl, h1⟩ := q2_ok hs
    cases h1
    obtain rfl : 1 = ln := hln.resolve_right (by simp [isSw])
    exact lv_lmul hx hb hd (kk H locs ls hP hD hS hL)
  | land =>
    obtain ⟨x, z, r, rfl, h1⟩ := q2_ok hs
    cases h1
    obtain rfl : 1 = ln := hln.resolve_right (by simp [isSw])
    exact lv_land hx hb hd (kk H locs ls hP hD hS hL)
  | ldiv =>
    obtain ⟨x, z, r, rfl, h1⟩ := q2_ok hs
    obtain ⟨h2, h3⟩ := ifn_ok h1
    cases h3
    obtain rfl : 1 = ln := hln.resolve_right (by simp [isSw])
    exact lv_ldiv hx hb hd h2 (kk H locs ls hP hD hS hL)
  | lrem =>
    obtain ⟨x, z, r, rfl, h1⟩ := q2_ok hs
    obtain ⟨h2, h3⟩ := ifn_ok h1
    cases h3
    obtain rfl : 1 = ln := hln.resolve_right (by simp [isSw])
    exact lv_lrem hx hb hd h2 (kk H locs ls hP hD hS hL)
  | lcmp =>
    obtain ⟨x, z, r, rfl, h1⟩ := q2_ok hs
    cases h1
    obtain rfl : 1 = ln := hln.resolve_right (by simp [isSw])
    exact W.lcmp hx hb hd (kk H locs ls hP hD hS hL)
  | dup =>
    obtain rfl : 1 = ln := hln.resolve_right (by simp [isSw])
    match st, hs with
    | v :: r, hs =>
      obtain ⟨h2, h3⟩ := if_ok hs
      cases h3
      exact lv_dup hx hb hd (by rw [tr_cat]; exact h2) (kk H locs ls hP hD hS hL)
  | dup2 =>
    obtain rfl : 1 = ln := hln.resolve_right (by simp [isSw])
    match st, hs with
    | v :: w :: r, hs =>
      obtain ⟨h2, h3⟩ := if_ok hs
      cases h3
      exact lv_dup2_11 hx hb hd (by rw [tr_cat]; exact h2.1) (by rw [tr_cat]; exact h2.2) (kk H locs ls hP hD hS hL)
  | pop =>
    obtain rfl : 1 = ln := hln.resolve_right (by simp [isSw])
    match st, hs with
    | v :: r, hs =>
      obtain ⟨h2, h3⟩ := if_ok hs
      cases h3
      exact lv_pop hx hb hd (by rw [tr_cat]; exact h2) (kk H locs ls hP hD hS hL)
  | goto off =>
    obtain ⟨t, h1, h2⟩ := Option.bind_eq_some_iff.mp hs
    cases h2
    obtain rfl : 3 = ln := hln.resolve_right (by simp [isSw])
    exact lv_goto hx hb hd (tgt_ok h1) (kk H locs ls hP hD hS hL)
  | ifCond cd off =>
    obtain ⟨x, r, rfl, h0⟩ := p1_ok hs
    obtain ⟨t, h1, h2⟩ := Option.bind_eq_some_iff.mp h0
    cases h2
    obtain rfl : 3 = ln := hln.resolve_right (by simp [isSw])
    have k2 := kk H locs ls hP hD hS hL
    cases cd with
    | eq => exact lv_if_eq hx hb hd (tgt_ok h1) (fun hc => by simpa [cnd, hc] using k2) (fun hc => by simpa [cnd, hc] using k2)
    | ne => exact lv_if_ne hx hb hd (tgt_ok h1) (fun hc => by simpa [cnd, hc] using k2) (fun hc => by simpa [cnd, hc] using k2)
    | lt => exact lv_if_lt hx hb hd (tgt_ok h1) (fun hc => by simpa only [cnd, hc, decide_true, decide_false, if_true, Bool.false_eq_true, if_false] using k2) (fun hc => by simpa only [cnd, hc, decide_true, decide_false, if_true, Bool.false_eq_true, if_false] using k2)
    | ge => exact lv_if_ge hx hb hd (tgt_ok h1) (fun hc => by simpa only [cnd, hc, decide_true, decide_false, if_true, Bool.false_eq_true, if_false] using k2) (fun hc => by simpa only [cnd, hc, decide_true, decide_false, if_true, Bool.false_eq_true, if_false] using k2)
    | gt => exact lv_if_gt hx hb hd (tgt_ok h1) (fun hc => by simpa only [cnd, hc, decide_true, decide_false, if_true, Bool.false_eq_true, if_false] using k2) (fun hc => by simpa only [cnd, hc, decide_true, decide_false, if_true, Bool.false_eq_true, if_false] using k2)
    | le => exact lv_if_le hx hb hd (tgt_ok h1) (fun hc => by simpa only [cnd, hc, decide_true, decide_false, if_true, Bool.false_eq_true, if_false] using k2) (fun hc => by simpa only [cnd, hc, decide_true, decide_false, if_true, Bool.false_eq_true, if_false] using k2)
  | if_icmp cd off =>
    obtain ⟨x, z, r, rfl, h0⟩ := p2_ok hs
    obtain ⟨t, h1, h2⟩ := Option.bind_eq_some_iff.mp h0
    cases h2
    obtain rfl : 3 = ln := hln.resolve_right (by simp [isSw])
    have k2 := kk H locs ls hP hD hS hL
    cases cd with
    | eq => exact lv_icmp_eq hx hb hd (tgt_ok h1) (fun hc => by simpa only [cnd, hc, decide_true, decide_false, if_true, Bool.false_eq_true, if_false] using k2) (fun hc => by simpa only [cnd, hc, decide_true, decide_false, if_true, Bool.false_eq_true, if_false] using k2)
    | ne => exact lv_icmp_ne hx hb hd (tgt_ok h1) (fun hc => by simpa only [cnd, hc, decide_true, decide_false, if_true, Bool.false_eq_true, if_false, not_false_eq_true] using k2) (fun hc => by simpa only [cnd, hc, not_true_eq_false, decide_true, decide_false, if_true, Bool.false_eq_true, if_false] using k2)
    | lt => exact lv_icmp_lt hx hb hd (tgt_ok h1) (fun hc => by simpa only [cnd, hc, decide_true, decide_false, if_true, Bool.false_eq_true, if_false] using k2) (fun hc => by simpa only [cnd, hc, decide_true, decide_false, if_true, Bool.false_eq_true, if_false] using k2)
    | ge => exact lv_icmp_ge hx hb hd (tgt_ok h1) (fun hc => by simpa only [cnd, hc, decide_true, decide_false, if_true, Bool.false_eq_true, if_false] using k2) (fun hc => by simpa only [cnd, hc, decide_true, decide_false, if_true, Bool.false_eq_true, if_false] using k2)
    | gt => exact lv_icmp_gt hx hb hd (tgt_ok h1) (fun hc => by simpa only [cnd, hc, decide_true, decide_false, if_true, Bool.false_eq_true, if_false] using k2) (fun hc => by simpa only [cnd, hc, decide_true, decide_false, if_true, Bool.false_eq_true, if_false] using k2)
    | le => exact lv_icmp_le hx hb hd (tgt_ok h1) (fun hc => by simpa only [cnd, hc, decide_true, decide_false, if_true, Bool.false_eq_true, if_false] using k2) (fun hc => by simpa only [cnd, hc, decide_true, decide_false, if_true, Bool.false_eq_true, if_false] using k2)
  | tableswitch d0 lo hi2 offs =>
    obtain ⟨x, r, rfl, h0⟩ := p1_ok hs
    by_cases hc : x.toInt < lo ∨ hi2 < x.toInt
    · rw [if_pos hc] at h0
      obtain ⟨t, h1, h2⟩ := Option.bind_eq_some_iff.mp h0
      cases h2
      exact lv_tableOut hx hb hd hc (tgt_ok h1) (kk H locs ls hP hD hS hL)
    · rw [if_neg hc] at h0
      obtain ⟨off, h3, h4⟩ := Option.bind_eq_some_iff.mp h0
      obtain ⟨t, h1, h2⟩ := Option.bind_eq_some_iff.mp h4
      cases h2
      exact lv_tableIn hx hb hd (fun z => hc (Or.inl z)) (fun z => hc (Or.inr z)) h3 (tgt_ok h1) (kk H locs ls hP hD hS hL)
  | getfield idx =>
    obtain rfl : 3 = ln := hln.resolve_right (by simp [isSw])
    obtain ⟨a, r, rfl, h0⟩ := pr_ok hs
    obtain ⟨⟨ci, k⟩, h1, h2⟩ := Option.bind_eq_some_iff.mp h0
    obtain ⟨fl, h3, h4⟩ := Option.bind_eq_some_iff.mp h2
    obtain ⟨C, T, N, hv, hkN, hlk⟩ := flds_ok h1
    rw [hon] at hlk
    have he := wd_get (cI := cI) (cZ := cZ) (adr := adr) (σ := σ) (objF_ok h3)
    rw [wc_obj] at he
    have hin := u_ws_good (cls_ok hv).1
    have hlk2 := hts _ (gw_mem hlk rfl)
    dsimp only at h4
    split at h4
    · rename_i hf
      cases h4
      exact va_get hx hb hts hin hown hK hP a he hv k hkN hlk2 (fun _ h => h) (by rw [List.getElem?_mapIdx, hf]; rfl) hd (kk H locs ls hP hD hS hL)
    · rename_i t hf
      cases h4
      exact va_get hx hb hts hin hown hK hP a he hv k hkN hlk2 (fun _ h => h) (by rw [List.getElem?_mapIdx, hf]; rfl) hd (kk H locs ls hP hD hS hL)
    · cases h4
  | putfield idx =>
    obtain rfl : 3 = ln := hln.resolve_right (by simp [isSw])
    obtain ⟨v, r, rfl, h00⟩ := p1_ok hs
    obtain ⟨a, r, rfl, h0⟩ := pr_ok h00
    obtain ⟨⟨ci, k⟩, h1, h2⟩ := Option.bind_eq_some_iff.mp h0
    obtain ⟨fl, h3, h4⟩ := Option.bind_eq_some_iff.mp h2
    obtain ⟨C, T, N, hv, hkN, hlk⟩ := flds_ok h1
    rw [hon] at hlk
    have he := wd_get (cI := cI) (cZ := cZ) (adr := adr) (σ := σ) (objF_ok h3)
    rw [wc_obj] at he
    have hin := u_ws_good (cls_ok hv).1
    obtain ⟨ty, hty, hnm⟩ := (cls_ok hv).2
    have hlk2 := hts _ (gw_mem hlk rfl)
    have hpo := put_ok hi h1
    unfold fldT at hpo
    rw [hv] at hpo
    dsimp only at h4 hpo
    split at h4
    · rename_i hf
      cases h4
      refine va_put hx hb hts hin ty hty hnm hown hK hP hD hS a he hv k hkN hlk2 (fun _ h => h) hpo.1 (ty := .int) (v := .int v) (by rw [hpo.2]; decide +kernel) rfl rfl (by rw [List.length_mapIdx]; exact (List.getElem?_eq_some_iff.mp hf).1) hd (fun H1 locs1 hP1 hD1 hS1 => ?_)
      rw [wf_set v hf, ← wc_obj (cI := cI) (cZ := cZ), wd_set _ (objF_ok h3)] at hP1 hD1
      exact kk H1 locs1 ls hP1 hD1 hS1 hL
    · cases h4
  | iaload =>
    obtain rfl : 1 = ln := hln.resolve_right (by simp [isSw])
    obtain ⟨ix, r, rfl, h00⟩ := p1_ok hs
    obtain ⟨a, r, rfl, h0⟩ := pr_ok h00
    have gen : ∀ n, arrN false a = some n → inN ix n = true → q = (pc + 1, lv, Value.int (σ a ix.toNatClampNeg) :: r, σ) → W p l e R s m args below meth c H locs cells slots QQ (F0 m pc ls ((Value.int ix :: Value.ref a :: r).map (tr adr))) := by
      intro n h1 h2 h3
      subst h3
      have he := wd_get (cI := cI) (cZ := cZ) (adr := adr) (σ := σ) (arrN_ok h1)
      rw [wc_arr] at he
      exact va_iald hx hb hK hP a 0 he rfl (inN_vp h2) hd (kk H locs ls hP hD hS hL)
    cases hXc : X with
    | none =>
      rw [hXc] at h0
      obtain ⟨n, h1, h2⟩ := Option.bind_eq_some_iff.mp h0
      obtain ⟨h3, h4⟩ := if_ok h2
      exact gen n h1 h3 (Option.some.inj h4).symm
    | some LX =>
      obtain ⟨L, xs⟩ := LX
      rw [hXc] at h0
      dsimp only at h0
      by_cases ha : a = 1000
      · rw [if_pos ha] at h0
        obtain ⟨h3, h4⟩ := if_ok h0
        cases h4
        subst ha
        obtain ⟨g1, g2, g3⟩ := hX L xs hXc
        exact va_sld hx hb g1 g2 g3 hS (inN_vp h3) hd (kk H locs ls hP hD hS hL)
      · rw [if_neg ha] at h0
        obtain ⟨n, h1, h2⟩ := Option.bind_eq_some_iff.mp h0
        obtain ⟨h3, h4⟩ := if_ok h2
        exact gen n h1 h3 (Option.some.inj h4).symm
  | iastore =>
    obtain rfl : 1 = ln := hln.resolve_right (by simp [isSw])
    obtain ⟨v, r, rfl, h00⟩ := p1_ok hs
    obtain ⟨ix, r, rfl, h01⟩ := p1_ok h00
    obtain ⟨a, r, rfl, h0⟩ := pr_ok h01
    obtain ⟨n, h1, h2⟩ := Option.bind_eq_some_iff.mp h0
    obtain ⟨h3, h4⟩ := if_ok h2
    cases h4
    have he := wd_get (cI := cI) (cZ := cZ) (adr := adr) (σ := σ) (arrN_ok h1)
    rw [wc_arr] at he
    refine va_iast hx hb hK hP hD hS a 0 he rfl (inN_vp h3) hd (fun H1 locs1 hP1 hD1 hS1 => ?_)
    rw [← wc_arr (cI := cI) (cZ := cZ) (adr := adr) (z := false), wd_set _ (arrN_ok h1)] at hP1 hD1
    exact kk H1 locs1 ls hP1 hD1 hS1 hL
  | baload =>
    obtain rfl : 1 = ln := hln.resolve_right (by simp [isSw])
    obtain ⟨ix, r, rfl, h00⟩ := p1_ok hs
    obtain ⟨a, r, rfl, h0⟩ := pr_ok h00
    obtain ⟨n, h1, h2⟩ := Option.bind_eq_some_iff.mp h0
    obtain ⟨h3, h4⟩ := if_ok h2
    cases h4
    have he := wd_get (cI := cI) (cZ := cZ) (adr := adr) (σ := σ) (arrN_ok h1)
    rw [wc_arr] at he
    exact va_zald hx hb hK hP a 1 he rfl (inN_vp h3) hd (kk H locs ls hP hD hS hL)
  | bastore =>
    obtain rfl : 1 = ln := hln.resolve_right (by simp [isSw])
    obtain ⟨v, r, rfl, h00⟩ := p1_ok hs
    obtain ⟨ix, r, rfl, h01⟩ := p1_ok h00
    obtain ⟨a, r, rfl, h0⟩ := pr_ok h01
    obtain ⟨n, h1, h2⟩ := Option.bind_eq_some_iff.mp h0
    obtain ⟨h3, h4⟩ := if_ok h2
    cases h4
    have he := wd_get (cI := cI) (cZ := cZ) (adr := adr) (σ := σ) (arrN_ok h1)
    rw [wc_arr] at he
    refine va_zast hx hb hK hP hD hS a 1 he rfl (inN_vp h3) hd (fun H1 locs1 hP1 hD1 hS1 => ?_)
    rw [← wc_arr (cI := cI) (cZ := cZ) (adr := adr) (z := true), wd_set _ (arrN_ok h1)] at hP1 hD1
    exact kk H1 locs1 ls hP1 hD1 hS1 hL
  | arraylength =>
    obtain rfl : 1 = ln := hln.resolve_right (by simp [isSw])
    obtain ⟨a, r, rfl, h0⟩ := pr_ok hs
    have gen : ∀ n, arrN false a = some n → q = (pc + 1, lv, Value.int (Int32.ofNat n) :: r, σ) → W p l e R s m args below meth c H locs cells slots QQ (F0 m pc ls ((Value.ref a :: r).map (tr adr))) := by
      intro n h1 h3
      subst h3
      have he := wd_get (cI := cI) (cZ := cZ) (adr := adr) (σ := σ) (arrN_ok h1)
      rw [wc_arr] at he
      exact va_alen hx hb hK hP a 0 he (ty := .int) rfl rfl hd (kk H locs ls hP hD hS hL)
    cases hXc : X with
    | none =>
      rw [hXc] at h0
      obtain ⟨n, h1, h2⟩ := Option.bind_eq_some_iff.mp h0
      exact gen n h1 (Option.some.inj h2).symm
    | some LX =>
      obtain ⟨L, xs⟩ := LX
      rw [hXc] at h0
      dsimp only at h0
      by_cases ha : a = 1000
      · rw [if_pos ha] at h0
        cases h0
        subst ha
        obtain ⟨g1, g2, g3⟩ := hX L xs hXc
        exact va_slen hx hb g1 g2 g3 hS hd (kk H locs ls hP hD hS hL)
      · rw [if_neg ha] at h0
        obtain ⟨n, h1, h2⟩ := Option.bind_eq_some_iff.mp h0
        exact gen n h1 (Option.some.inj h2).symm
  | _ => cases hs
end StepSound
