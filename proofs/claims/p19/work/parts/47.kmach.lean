/-! making objects: a machine over cells that grow; references are places, from 1000 on what came from outside -/
abbrev CE : Type := (Bool × Nat) ⊕ (Nat × List Value)
def cw (cI cZ : ClassId) (ad : Nat → Nat) (e : CE) : va_E := match e with
  | .inl (z, n) => .inl (bif z then cZ else cI, n, .inl (fun _ => 0))
  | .inr (ci, fs) => .inr (ci, fs.map (tr ad))
def cwd (cI cZ : ClassId) (ad : Nat → Nat) (cs : List CE) : va_W := cs.mapIdx (fun k e => (ad k, cw cI cZ ad e))
def agr (n : Nat) (ad ad' : Nat → Nat) : Prop := ∀ k, k < n ∨ 1000 ≤ k → ad' k = ad k
theorem agr.rf {n : Nat} {ad : Nat → Nat} : agr n ad ad := fun _ _ => rfl
theorem agr.trans {n n' : Nat} {ad ad' ad'' : Nat → Nat} (h : agr n ad ad') (h' : agr n' ad' ad'') (hn : n ≤ n') : agr n ad ad'' := fun k hk => (h' k (hk.imp (fun q => by omega) id)).trans (h k hk)
def sc (n : Nat) : Value → Bool
  | .ref k => Nat.blt k n || Nat.ble 1000 k
  | _ => true
def scE (n : Nat) (e : CE) : Bool := match e with
  | .inl _ => true
  | .inr q => q.2.all (sc n)
def scO (n : Nat) (o : Option Value) : Bool := match o with
  | some v => sc n v
  | none => true
def scA (lv : Lv) (st : List Value) (cs : List CE) : Bool := Nat.blt cs.length 1000 && st.all (sc cs.length) && lv.all (scO cs.length) && cs.all (scE cs.length)
theorem sc_tr {n : Nat} {ad ad' : Nat → Nat} (h : agr n ad ad') {v : Value} (hv : sc n v = true) : tr ad' v = tr ad v := by
  cases v with
  | ref k =>
    simp only [sc, Bool.or_eq_true] at hv
    show Value.ref (ad' k) = Value.ref (ad k)
    rw [h k (hv.imp Nat.le_of_ble_eq_true Nat.le_of_ble_eq_true)]
  | _ => rfl
theorem sc_map {n : Nat} {ad ad' : Nat → Nat} (h : agr n ad ad') {st : List Value} (hv : st.all (sc n) = true) : st.map (tr ad') = st.map (tr ad) := List.map_congr_left (fun v hm => sc_tr h (List.all_eq_true.mp hv v hm))
theorem scE_cw {n : Nat} {ad ad' : Nat → Nat} (h : agr n ad ad') {cI cZ : ClassId} {e : CE} (hv : scE n e = true) : cw cI cZ ad' e = cw cI cZ ad e := by
  cases e with
  | inl q => rfl
  | inr q =>
    obtain ⟨ci, fs⟩ := q
    unfold cw
    dsimp only
    rw [sc_map h hv]
theorem cwd_get {cI cZ : ClassId} {ad : Nat → Nat} {cs : List CE} {k : Nat} {e : CE} (h : cs[k]? = some e) : (cwd cI cZ ad cs)[k]? = some (ad k, cw cI cZ ad e) := by
  unfold cwd
  rw [List.getElem?_mapIdx, h]
  rfl
theorem cwd_cong {cI cZ : ClassId} {ad ad' : Nat → Nat} {cs : List CE} (h1 : ∀ k, k < cs.length → ad' k = ad k) (h2 : ∀ e ∈ cs, cw cI cZ ad' e = cw cI cZ ad e) : cwd cI cZ ad' cs = cwd cI cZ ad cs := by
  refine List.ext_getElem? fun k => ?_
  unfold cwd
  rw [List.getElem?_mapIdx, List.getElem?_mapIdx]
  cases hk : cs[k]? with
  | none => rfl
  | some e =>
    show some (ad' k, cw cI cZ ad' e) = some (ad k, cw cI cZ ad e)
    rw [h1 k (List.getElem?_eq_some_iff.mp hk).1, h2 e (List.mem_of_getElem? hk)]
theorem cwd_ext {cI cZ : ClassId} {n : Nat} {ad ad' : Nat → Nat} {cs : List CE} (h : agr n ad ad') (hn : cs.length ≤ n) (hs : cs.all (scE n) = true) : cwd cI cZ ad' cs = cwd cI cZ ad cs :=
  cwd_cong (fun k hk => h k (Or.inl (by omega))) (fun e he => scE_cw h (List.all_eq_true.mp hs e he))
theorem LR.agr {n : Nat} {ad ad' : Nat → Nat} {ls : Array Slot} {nL : Nat} {lv : Lv} (h : LR ad ls nL lv) (ha : agr n ad ad') (hs : lv.all (scO n) = true) : LR ad' ls nL lv := by
  refine ⟨h.1, h.2.1, h.2.2.1, fun i v hi => ?_⟩
  rw [sc_tr ha (show sc n v = true from List.all_eq_true.mp hs _ (List.mem_of_getElem? hi))]
  exact h.2.2.2 i v hi
def ext1 (ad : Nat → Nat) (n a : Nat) : Nat → Nat := fun k => if k = n then a else ad k
theorem ext1_agr {ad : Nat → Nat} {n a : Nat} (h : n < 1000) : agr n ad (ext1 ad n a) := fun k hk => if_neg (by omega)
theorem ext1_self {ad : Nat → Nat} {n a : Nat} : ext1 ad n a n = a := if_pos rfl
theorem cwd_push {cI cZ : ClassId} {ad : Nat → Nat} {cs : List CE} {e : CE} {a : Nat} (hs : cs.all (scE cs.length) = true) (hl : cs.length < 1000) (he : scE cs.length e = true) : cwd cI cZ (ext1 ad cs.length a) (cs ++ [e]) = cwd cI cZ ad cs ++ [(a, cw cI cZ ad e)] := by
  have h1 : cwd cI cZ (ext1 ad cs.length a) (cs ++ [e]) = cwd cI cZ (ext1 ad cs.length a) cs ++ [(ext1 ad cs.length a cs.length, cw cI cZ (ext1 ad cs.length a) e)] := by
    unfold cwd
    rw [List.mapIdx_append]
    simp
  rw [h1, cwd_ext (ext1_agr hl) (Nat.le_refl _) hs, ext1_self, scE_cw (ext1_agr hl) he]
theorem cwd_set {cI cZ : ClassId} {ad : Nat → Nat} {cs : List CE} {a ci k : Nat} {fs : List Value} {v : Value} (h : cs[a]? = some (.inr (ci, fs))) : (cwd cI cZ ad cs).set a (ad a, .inr (ci, (fs.map (tr ad)).set k (tr ad v))) = cwd cI cZ ad (cs.set a (.inr (ci, fs.set k v))) := by
  refine List.ext_getElem? fun j => ?_
  have hl : a < cs.length := (List.getElem?_eq_some_iff.mp h).1
  unfold cwd
  rw [List.getElem?_set, List.getElem?_mapIdx, List.getElem?_mapIdx, List.getElem?_set]
  by_cases hj : a = j
  · subst hj
    rw [if_pos rfl, if_pos rfl, if_pos (by rw [List.length_mapIdx]; exact hl), if_pos hl]
    show some _ = some _
    unfold cw
    dsimp only
    rw [List.map_set]
  · rw [if_neg hj, if_neg hj]
abbrev KS : Type := Nat × Lv × List Value × List CE × Nat × Nat
def aty (t : ArrayType) : Option Bool := match t with
  | .int => some false
  | .boolean => some true
  | _ => none
def okT (tag : Nat) (v : Value) : Bool := match tag, v with
  | 0, .int _ => true
  | 1, .int _ => true
  | 2, .ref _ => true
  | 3, .ref _ => true
  | _, _ => false
def kst (y : Nat) (i : Instr) (pc : Nat) (lv : Lv) (st : List Value) (cs : List CE) (ce sl : Nat) : Option KS := match i with
  | .aload_n k => match lv[(k : Nat)]? with
    | some (some (.ref a)) => some (pc + 1, lv, .ref a :: st, cs, ce, sl)
    | _ => none
  | .iload_n k => match lv[(k : Nat)]? with
    | some (some (.int a)) => some (pc + 1, lv, .int a :: st, cs, ce, sl)
    | _ => none
  | .iconst n => some (pc + 1, lv, .int (Int32.ofInt n) :: st, cs, ce, sl)
  | .bipush n => some (pc + 2, lv, .int (Int8.ofInt n).toInt32 :: st, cs, ce, sl)
  | .sipush n => some (pc + 3, lv, .int (Int16.ofInt n).toInt32 :: st, cs, ce, sl)
  | .imul => match st with
    | .int y1 :: .int x1 :: r => some (pc + 1, lv, .int (x1 * y1) :: r, cs, ce, sl)
    | _ => none
  | .dup => match st with
    | .ref a :: r => some (pc + 1, lv, .ref a :: .ref a :: r, cs, ce, sl)
    | _ => none
  | .astore_n k => match st with
    | .ref a :: r => if (k : Nat) < lv.length then some (pc + 1, sl1 lv k (.ref a), r, cs, ce, sl) else none
    | _ => none
  | .istore_n k => match st with
    | .int a :: r => if (k : Nat) < lv.length then some (pc + 1, sl1 lv k (.int a), r, cs, ce, sl) else none
    | _ => none
  | .new idx => match klink y idx with
    | some (3, ci, _, _, _, _) => if scA lv st cs = true ∧ ce + 1 ≤ kCE y ∧ sl + (kdfl ci).length ≤ kSL y then some (pc + 3, lv, .ref cs.length :: st, cs ++ [.inr (ci, kdfl ci)], ce + 1, sl + (kdfl ci).length) else none
    | _ => none
  | .newarray t => match aty t with
    | some z => match st with
      | .int n :: r => if scA lv r cs = true ∧ ¬ n < 0 ∧ n.toNatClampNeg ≤ 1000 ∧ ce + 1 ≤ kCE y ∧ sl + n.toNatClampNeg ≤ kSL y then some (pc + 2, lv, .ref cs.length :: r, cs ++ [.inl (z, n.toNatClampNeg)], ce + 1, sl + n.toNatClampNeg) else none
      | _ => none
    | none => none
  | .getfield idx => match klink y idx with
    | some (6, ci, k, _, _, _) => match st with
      | .ref a :: r => match cs[a]? with
        | some (.inr (ci', fs)) => if ci = ci' then match fs[k]? with
            | some v => some (pc + 3, lv, v :: r, cs, ce, sl)
            | none => none
          else none
        | _ => none
      | _ => none
    | _ => none
  | .putfield idx => match klink y idx with
    | some (6, ci, k, _, tag, _) => match st with
      | v :: .ref a :: r => match cs[a]? with
        | some (.inr (ci', fs)) => if ci = ci' ∧ k < fs.length ∧ y < 11 ∧ okT tag v = true then some (pc + 3, lv, r, cs.set a (.inr (ci, fs.set k v)), ce, sl) else none
        | _ => none
      | _ => none
    | _ => none
  | .invokespecial idx => match klink y idx with
    | some (0, _, _, _, _, _) => match st with
      | .ref _ :: r => if (r.map fun v => v.category).sum ≤ 8 then some (pc + 3, lv, r, cs, ce, sl) else none
      | _ => none
    | _ => none
  | .invokestatic idx => match klink y idx with
    | some (4, _, _, _, _, _) => match st with
      | .int y1 :: .int x1 :: r => if (r.map fun v => v.category).sum ≤ 8 ∧ 21 ≤ kLO y ∧ ce ≤ kCE y ∧ sl ≤ kSL y then some (pc + 3, lv, .int (if x1 < y1 then y1 else x1) :: r, cs, ce, sl) else none
      | _ => none
    | some (5, _, _, _, _, _) => match st with
      | .int y1 :: .int x1 :: r => if (r.map fun v => v.category).sum ≤ 8 ∧ 21 ≤ kLO y ∧ ce ≤ kCE y ∧ sl ≤ kSL y then some (pc + 3, lv, .int (if y1 < x1 then y1 else x1) :: r, cs, ce, sl) else none
      | _ => none
    | _ => none
  | _ => none
/-- what stands all through a constructor's body -/
def Kx (dC : Nat → ClassId) (dI : Nat → Nat → Nat) (cI cZ : ClassId) (y : Nat) (p : Program) (R : Room) (s : State) (m : MethodId) (args : Array Value) (meth : Method) (c : Code) (A : Nat → Prop) : Prop :=
  p.tables.exec = Jvm.exec ∧ c.code = kcd y ∧ c.maxLocals = kML y ∧ s.vm.findClass (knm y).cls = some m.cls ∧ (∀ w ∈ gw, w.before args s = true) ∧ NW s ∧ kFR y ≤ R.frames ∧ kLO y ≤ R.locals ∧ kCE y ≤ R.cells ∧ kSL y ≤ R.slots ∧ va_K (dC, dI) vwCl (tyL cI cZ) s ∧ (∀ q, s.heap.size ≤ q → A q) ∧ (y < 11 → meth.name = "<init>")
theorem arrI_in : Jvm.Cond.arrayClass .int ∈ lw_tbl := okW_mem (i := kArrI) (by decide +kernel)
theorem arrZ_in : Jvm.Cond.arrayClass .boolean ∈ lw_tbl := okW_mem (i := kArrZ) (by decide +kernel)
theorem vwCl_lt {ci : Nat} {q : vw_C} (h : vwCl[ci]? = some q) : ci < 11 := (List.getElem?_eq_some_iff.mp h).1
theorem fldT_eq {ci : Nat} {C : String} {T : u_T} {N : Nat} (h : vwCl[ci]? = some (C, T, N)) (k : Nat) : fldT ci k = T k := by unfold fldT; rw [h]
theorem fldN_eq {ci : Nat} {C : String} {T : u_T} {N : Nat} (h : vwCl[ci]? = some (C, T, N)) : fldN ci = N := by unfold fldN; rw [h]
theorem fldN_some {a b : Nat} (h : b < fldN a) : ∃ (C : String) (T : u_T) (N : Nat), vwCl[a]? = some (C, T, N) := by
  unfold fldN at h
  cases hv : vwCl[a]? with
  | none => rw [hv] at h; exact absurd h (Nat.not_lt_zero _)
  | some w => obtain ⟨C, T, N⟩ := w; exact ⟨C, T, N, rfl⟩
theorem isRefT_ok {o : Option FieldType} (h : isRefT o = true) (a : Nat) : ∃ ty, o = some ty ∧ narrow ty (.ref a) = .ref a ∧ fits ty (.ref a) = true := by
  cases o with
  | none => cases h
  | some ty => cases ty <;> first | (cases h; done) | exact ⟨_, rfl, rfl, rfl⟩
theorem isIntT_ok {o : Option FieldType} (h : isIntT o = true) (a : Int32) : ∃ ty, o = some ty ∧ narrow ty (.int a) = .int a ∧ fits ty (.int a) = true := by
  cases o with
  | none => cases h
  | some ty => cases ty <;> first | (cases h; done) | exact ⟨_, rfl, rfl, rfl⟩
