/-! THE PURE MACHINE: a store of ints (place, number), references are places; what a method's code does there, as a weakest precondition -/
abbrev St : Type := Nat → Nat → Int32
def sr (σ : St) (k : Nat) (f : Nat → Int32) : St := fun a => if a = k then f else σ a
def s2 (σ : St) (k j : Nat) (v : Int32) : St := sr σ k (upd (σ k) j v)
/-- the tables of a method -/
def mpd : MP := (0, 9, 0, 0, 0, 0)
def mML (y : Nat) : Nat := (mp.getD y mpd).1
def mRK (y : Nat) : Nat := (mp.getD y mpd).2.1
def mNP (y : Nat) : Nat := (mp.getD y mpd).2.2.1
def mFR (y : Nat) : Nat := (mp.getD y mpd).2.2.2.1
def mLO (y : Nat) : Nat := (mp.getD y mpd).2.2.2.2.1
def mOC (y : Nat) : Nat := (mp.getD y mpd).2.2.2.2.2
def mcd (y : Nat) : ByteArray := (mi y).2.1
def mnm (y : Nat) : MethodName := (mi y).1
def mrt (y : Nat) : Option FieldType := (mi y).2.2.2
def ins (y pc : Nat) : Option (Instr × Nat) := pk (pins.getD y []) pc
def pcall (y idx : Nat) : Option (Nat × Nat) := (pk (calls.getD y []) idx).map (fun q => (q.1, q.2.1))
def fres (oc idx : Nat) : Option (Nat × Nat) := (pk (flds.getD oc []) idx).map (fun q => (q.1, q.2.1))
def cres (oc idx : Nat) : Option Int32 := (pk (csts.getD oc []) idx).map (fun q => q.1)
def lres (oc idx : Nat) : Option Int64 := (pk (cstl.getD oc []) idx).map (fun q => q.1)
def ilen : Instr → Nat
  | .bipush _ | .ldc _ | .iload _ | .lload _ | .aload _ | .istore _ | .lstore _ | .astore _ => 2
  | .sipush _ | .ldc_w _ | .ldc2_w _ | .getfield _ | .putfield _ | .iinc _ _ | .ifCond _ _ | .if_icmp _ _ | .goto _ | .invokevirtual _ | .invokestatic _ | .invokespecial _ | .new _ => 3
  | .newarray _ => 2
  | _ => 1
def isSw : Instr → Bool
  | .tableswitch _ _ _ _ => true
  | _ => false
def tgt (pc : Nat) (off : Int) : Option Nat := if 0 ≤ (pc : Int) + off then some ((pc : Int) + off).toNat else none
def cnd : ClassFile.Cond → Int32 → Int32 → Bool
  | .eq, x, y => decide (x = y)
  | .ne, x, y => decide (¬ x = y)
  | .lt, x, y => decide (x < y)
  | .ge, x, y => decide (y ≤ x)
  | .gt, x, y => decide (y < x)
  | .le, x, y => decide (x ≤ y)
abbrev Lv : Type := List (Option Value)
def isL (o : Option (Option Value)) : Bool := match o with
  | some (some (.long _)) => true
  | some (some (.double _)) => true
  | _ => false
/-- a local is stored: what it breaks is gone -/
def sl1 (lv : Lv) (i : Nat) (v : Value) : Lv := match i with
  | 0 => lv.set 0 (some v)
  | j + 1 => (bif isL lv[j]? then lv.set j none else lv).set (j + 1) (some v)
def sl2 (lv : Lv) (i : Nat) (v : Value) : Lv := (sl1 lv i v).set (i + 1) none
abbrev Rs : Type := Nat × Lv × List Value × St
def gi (lv : Lv) (k : Nat) (f : Int32 → Option Rs) : Option Rs := match lv[k]? with
  | some (some (.int x)) => f x
  | _ => none
def gl (lv : Lv) (k : Nat) (f : Int64 → Option Rs) : Option Rs := match lv[k]? with
  | some (some (.long x)) => f x
  | _ => none
def ga (lv : Lv) (k : Nat) (f : Nat → Option Rs) : Option Rs := match lv[k]? with
  | some (some (.ref x)) => f x
  | _ => none
def p1 (st : List Value) (f : Int32 → List Value → Option Rs) : Option Rs := match st with
  | .int x :: r => f x r
  | _ => none
def p2 (st : List Value) (f : Int32 → Int32 → List Value → Option Rs) : Option Rs := match st with
  | .int y :: .int x :: r => f x y r
  | _ => none
def q1 (st : List Value) (f : Int64 → List Value → Option Rs) : Option Rs := match st with
  | .long x :: r => f x r
  | _ => none
def q2 (st : List Value) (f : Int64 → Int64 → List Value → Option Rs) : Option Rs := match st with
  | .long y :: .long x :: r => f x y r
  | _ => none
def pr (st : List Value) (f : Nat → List Value → Option Rs) : Option Rs := match st with
  | .ref a :: r => f a r
  | _ => none
/-- an array of ints (or booleans): its length -/
def arrN (z : Bool) (a : Nat) : Option Nat := match lay[a]? with
  | some (.inl (z', n)) => bif z == z' then some n else none
  | _ => none
def objF (a ci : Nat) : Option (List (Option Nat)) := match lay[a]? with
  | some (.inr (ci', fl)) => bif Nat.beq ci ci' then some fl else none
  | _ => none
/-- index within -/
def inN (i : Int32) (n : Nat) : Bool := decide (¬ (i < 0 ∨ n ≤ i.toNatClampNeg))
theorem inN_vp {i : Int32} {n : Nat} (h : inN i n = true) : vp_in i n := by
  unfold inN at h
  have h2 : ¬ (i < 0 ∨ n ≤ i.toNatClampNeg) := of_decide_eq_true h
  exact h2
abbrev Scr : Type := Option (Nat × (Nat → Int32))
def stp (X : Scr) (oc : Nat) (i : Instr) (pc : Nat) (lv : Lv) (st : List Value) (σ : St) : Option Rs :=
  match i with
  | .iconst n => some (pc + 1, lv, .int (Int32.ofInt n) :: st, σ)
  | .bipush n => some (pc + 2, lv, .int (Int8.ofInt n).toInt32 :: st, σ)
  | .sipush n => some (pc + 3, lv, .int (Int16.ofInt n).toInt32 :: st, σ)
  | .lconst n => some (pc + 1, lv, .long (Int64.ofNat (n : Nat)) :: st, σ)
  | .ldc idx => (cres oc idx).bind fun v => some (pc + 2, lv, .int v :: st, σ)
  | .ldc_w idx => (cres oc idx).bind fun v => some (pc + 3, lv, .int v :: st, σ)
  | .ldc2_w idx => (lres oc idx).bind fun v => some (pc + 3, lv, .long v :: st, σ)
  | .iload_n k => gi lv k fun x => some (pc + 1, lv, .int x :: st, σ)
  | .iload k => gi lv k fun x => some (pc + 2, lv, .int x :: st, σ)
  | .lload_n k => gl lv k fun x => some (pc + 1, lv, .long x :: st, σ)
  | .lload k => gl lv k fun x => some (pc + 2, lv, .long x :: st, σ)
  | .aload_n k => ga lv k fun x => some (pc + 1, lv, .ref x :: st, σ)
  | .aload k => ga lv k fun x => some (pc + 2, lv, .ref x :: st, σ)
  | .istore_n k => p1 st fun x r => if (k : Nat) < lv.length then some (pc + 1, sl1 lv k (.int x), r, σ) else none
  | .istore k => p1 st fun x r => if (k : Nat) < lv.length then some (pc + 2, sl1 lv k (.int x), r, σ) else none
  | .lstore_n k => q1 st fun x r => if (k : Nat) + 1 < lv.length then some (pc + 1, sl2 lv k (.long x), r, σ) else none
  | .lstore k => q1 st fun x r => if (k : Nat) + 1 < lv.length then some (pc + 2, sl2 lv k (.long x), r, σ) else none
  | .iinc k n => gi lv k fun x => some (pc + 3, sl1 lv k (.int (x + Int32.ofInt n)), st, σ)
  | .iadd => p2 st fun x y r => some (pc + 1, lv, .int (x + y) :: r, σ)
  | .isub => p2 st fun x y r => some (pc + 1, lv, .int (x - y) :: r, σ)
  | .imul => p2 st fun x y r => some (pc + 1, lv, .int (x * y) :: r, σ)
  | .iand => p2 st fun x y r => some (pc + 1, lv, .int (x &&& y) :: r, σ)
  | .ior => p2 st fun x y r => some (pc + 1, lv, .int (x ||| y) :: r, σ)
  | .ixor => p2 st fun x y r => some (pc + 1, lv, .int (x ^^^ y) :: r, σ)
  | .idiv => p2 st fun x y r => if y = 0 then none else some (pc + 1, lv, .int (x / y) :: r, σ)
  | .irem => p2 st fun x y r => if y = 0 then none else some (pc + 1, lv, .int (x - x / y * y) :: r, σ)
  | .ishl => p2 st fun x y r => some (pc + 1, lv, .int (x <<< (y &&& 31)) :: r, σ)
  | .ishr => p2 st fun x y r => some (pc + 1, lv, .int (x >>> (y &&& 31)) :: r, σ)
  | .iushr => p2 st fun x y r => some (pc + 1, lv, .int (x.toUInt32 >>> (y.toUInt32 &&& Int32.toUInt32 31)).toInt32 :: r, σ)
  | .i2l => p1 st fun x r => some (pc + 1, lv, .long x.toInt64 :: r, σ)
  | .l2i => q1 st fun x r => some (pc + 1, lv, .int x.toInt32 :: r, σ)
  | .ladd => q2 st fun x y r => some (pc + 1, lv, .long (x + y) :: r, σ)
  | .lmul => q2 st fun x y r => some (pc + 1, lv, .long (x * y) :: r, σ)
  | .land => q2 st fun x y r => some (pc + 1, lv, .long (x &&& y) :: r, σ)
  | .ldiv => q2 st fun x y r => if y = 0 then none else some (pc + 1, lv, .long (x / y) :: r, σ)
  | .lrem => q2 st fun x y r => if y = 0 then none else some (pc + 1, lv, .long (x - x / y * y) :: r, σ)
  | .lcmp => q2 st fun x y r => some (pc + 1, lv, .int (lg_cmp x y) :: r, σ)
  | .dup => match st with
    | v :: r => if v.category = 1 then some (pc + 1, lv, v :: v :: r, σ) else none
    | _ => none
  | .dup2 => match st with
    | v :: w :: r => if v.category = 1 ∧ w.category = 1 then some (pc + 1, lv, v :: w :: v :: w :: r, σ) else none
    | _ => none
  | .pop => match st with
    | v :: r => if v.category = 1 then some (pc + 1, lv, r, σ) else none
    | _ => none
  | .goto off => (tgt pc off).bind fun t => some (t, lv, st, σ)
  | .ifCond c off => p1 st fun x r => (tgt pc off).bind fun t => some (if cnd c x 0 = true then t else pc + 3, lv, r, σ)
  | .if_icmp c off => p2 st fun x y r => (tgt pc off).bind fun t => some (if cnd c x y = true then t else pc + 3, lv, r, σ)
  | .tableswitch d lo hi offs => p1 st fun x r =>
      if x.toInt < lo ∨ hi < x.toInt then (tgt pc d).bind fun t => some (t, lv, r, σ)
      else (offs[(x.toInt - lo).toNat]?).bind fun off => (tgt pc off).bind fun t => some (t, lv, r, σ)
  | .getfield idx => pr st fun a r => (fres oc idx).bind fun q => (objF a q.1).bind fun fl => match fl[q.2]? with
      | some none => some (pc + 3, lv, .int (σ a q.2) :: r, σ)
      | some (some t) => some (pc + 3, lv, .ref t :: r, σ)
      | none => none
  | .putfield idx => p1 st fun v r => pr r fun a r => (fres oc idx).bind fun q => (objF a q.1).bind fun fl => match fl[q.2]? with
      | some none => some (pc + 3, lv, r, s2 σ a q.2 v)
      | _ => none
  | .iaload => p1 st fun i r => pr r fun a r => match X with
      | some (L, xs) => if a = 1000 then (if inN i L = true then some (pc + 1, lv, .int (xs i.toNatClampNeg) :: r, σ) else none)
          else (arrN false a).bind fun n => if inN i n = true then some (pc + 1, lv, .int (σ a i.toNatClampNeg) :: r, σ) else none
      | none => (arrN false a).bind fun n => if inN i n = true then some (pc + 1, lv, .int (σ a i.toNatClampNeg) :: r, σ) else none
  | .iastore => p1 st fun v r => p1 r fun i r => pr r fun a r => (arrN false a).bind fun n => if inN i n = true then some (pc + 1, lv, r, s2 σ a i.toNatClampNeg v) else none
  | .baload => p1 st fun i r => pr r fun a r => (arrN true a).bind fun n => if inN i n = true then some (pc + 1, lv, .int (σ a i.toNatClampNeg) :: r, σ) else none
  | .bastore => p1 st fun v r => p1 r fun i r => pr r fun a r => (arrN true a).bind fun n => if inN i n = true then some (pc + 1, lv, r, s2 σ a i.toNatClampNeg (vp_nar .boolean v)) else none
  | .arraylength => pr st fun a r => match X with
      | some (L, _) => if a = 1000 then some (pc + 1, lv, .int (Int32.ofNat L) :: r, σ)
          else (arrN false a).bind fun n => some (pc + 1, lv, .int (Int32.ofNat n) :: r, σ)
      | none => (arrN false a).bind fun n => some (pc + 1, lv, .int (Int32.ofNat n) :: r, σ)
  | _ => none
/-- System.arraycopy between two rows of ints -/
def acp (pc : Nat) (lv : Lv) (st : List Value) (σ : St) : Option Rs :=
  match st with
  | .int n :: .int dp :: .ref b :: .int sp :: .ref a :: r => (arrN false a).bind fun na => (arrN false b).bind fun nb =>
      if (¬ sp < 0 ∧ ¬ dp < 0 ∧ ¬ n < 0 ∧ sp.toNatClampNeg + n.toNatClampNeg ≤ na ∧ dp.toNatClampNeg + n.toNatClampNeg ≤ nb) ∧ (r.map fun v => v.category).sum ≤ 8 then
        some (pc + 3, lv, r, sr σ b (va_cpy (σ a) (σ b) sp.toNatClampNeg dp.toNatClampNeg n.toNatClampNeg)) else none
  | _ => none
/-- Math.max, Math.min -/
def mmx (pc : Nat) (lv : Lv) (st : List Value) (σ : St) : Option Rs := p2 st fun x y r => if (r.map fun v => v.category).sum ≤ 8 then some (pc + 3, lv, .int (if x < y then y else x) :: r, σ) else none
def mmn (pc : Nat) (lv : Lv) (st : List Value) (σ : St) : Option Rs := p2 st fun x y r => if (r.map fun v => v.category).sum ≤ 8 then some (pc + 3, lv, .int (if y < x then y else x) :: r, σ) else none
/-- the locals at a method's entry -/
def lva : List Value → Lv
  | [] => []
  | v :: vs => if v.category = 2 then some v :: none :: lva vs else some v :: lva vs
def ent (y : Nat) (vs : List Value) : Lv := lva vs ++ List.replicate (mML y - (lva vs).length) none
def rOK (y : Nat) (r : Int32) : Prop := mRK y = 1 ∨ (mRK y = 2 ∧ (r = 0 ∨ r = 1))
def pw : Nat → Scr → Nat → Nat → Lv → List Value → St → (Option Value → St → Prop) → Prop
  | 0, _, _, _, _, _, _, _ => False
  | n + 1, X, y, pc, lv, st, σ, Q => match ins y pc with
    | none => False
    | some (i, _) => match i with
      | .ireturn => match st with
        | [.int r] => rOK y r ∧ Q (some (.int r)) σ
        | _ => False
      | .return_ => st = [] ∧ mRK y = 0 ∧ Q none σ
      | .invokevirtual idx => match pcall y idx with
        | some (0, y') => match st.drop (mNP y') with
          | .ref b :: rest => (objF b (mOC y')).isSome = true ∧ (st.take (mNP y')).length = mNP y' ∧ (rest.map fun v => v.category).sum ≤ 8 ∧ (lva (.ref b :: (st.take (mNP y')).reverse)).length ≤ mML y' ∧
              pw n none y' 0 (ent y' (.ref b :: (st.take (mNP y')).reverse)) [] σ (fun r σ' => pw n X y (pc + 3) lv (r.toList ++ rest) σ' Q)
          | _ => False
        | _ => False
      | .invokestatic idx => match pcall y idx with
        | some (3, _) => match acp pc lv st σ with
          | some q => pw n X y q.1 q.2.1 q.2.2.1 q.2.2.2 Q
          | none => False
        | some (4, _) => match mmx pc lv st σ with
          | some q => pw n X y q.1 q.2.1 q.2.2.1 q.2.2.2 Q
          | none => False
        | some (5, _) => match mmn pc lv st σ with
          | some q => pw n X y q.1 q.2.1 q.2.2.1 q.2.2.2 Q
          | none => False
        | some (1, y') => (st.take (mNP y')).length = mNP y' ∧ ((st.drop (mNP y')).map fun v => v.category).sum ≤ 8 ∧ (lva ((st.take (mNP y')).reverse)).length ≤ mML y' ∧
              pw n none y' 0 (ent y' ((st.take (mNP y')).reverse)) [] σ (fun r σ' => pw n X y (pc + 3) lv (r.toList ++ st.drop (mNP y')) σ' Q)
        | some (2, y') => (st.take (mNP y')).length = mNP y' ∧ ((st.drop (mNP y')).map fun v => v.category).sum ≤ 8 ∧ (lva ((st.take (mNP y')).reverse)).length ≤ mML y' ∧
              pw n none y' 0 (ent y' ((st.take (mNP y')).reverse)) [] σ (fun r σ' => pw n X y (pc + 3) lv (r.toList ++ st.drop (mNP y')) σ' Q)
        | _ => False
      | i => match stp X (mOC y) i pc lv st σ with
        | some q => pw n X y q.1 q.2.1 q.2.2.1 q.2.2.2 Q
        | none => False
