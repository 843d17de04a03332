/-! THE CHECKER: intervals, differences, value numbers; contracts and cuts at the loops' heads -/
abbrev AV : Type := Nat × Nat
abbrev ALv : Type := List (Option AV)
abbrev Tm : Type := Nat × Int × Int
abbrev Kn : Type := List (Nat × Int × Int) × Nat × List (Nat × Nat × Int) × List (Tm × Nat) × List ((Nat × Nat) × Nat) × List ((Nat × Nat) × Nat) × Bool
def kE (K : Kn) : List (Nat × Int × Int) := K.1
def kN (K : Kn) : Nat := K.2.1
def kG (K : Kn) : List (Nat × Nat × Int) := K.2.2.1
def kD (K : Kn) : List (Tm × Nat) := K.2.2.2.1
def kC (K : Kn) : List ((Nat × Nat) × Nat) := K.2.2.2.2.1
def kA (K : Kn) : List ((Nat × Nat) × Nat) := K.2.2.2.2.2.1
def kg (K : Kn) : Bool := K.2.2.2.2.2.2
def kiv (K : Kn) (s : Nat) : Option (Int × Int) := pk (kE K) s
def lo32 : Int := -2147483648
def hi32 : Int := 2147483647
def lo64 : Int := -9223372036854775808
def hi64 : Int := 9223372036854775807
def tmEq (a b : Tm) : Bool := Nat.beq a.1 b.1 && decide (a.2.1 = b.2.1) && decide (a.2.2 = b.2.2)
def dlk : List (Tm × Nat) → Tm → Option Nat
  | [], _ => none
  | q :: t, k => bif tmEq q.1 k then some q.2 else dlk t k
def clk : List ((Nat × Nat) × Nat) → Nat → Nat → Option Nat
  | [], _, _ => none
  | q :: t, a, j => bif (Nat.beq q.1.1 a && Nat.beq q.1.2 j) then some q.2 else clk t a j
/-- the pair of a comparison of longs whose outcome a symbol is -/
def dcmp : List (Tm × Nat) → Nat → Option (Nat × Nat)
  | [], _ => none
  | q :: t, s => bif (Nat.beq q.2 s && Nat.beq q.1.1 50) then some (q.1.2.1.toNat, q.1.2.2.toNat) else dcmp t s
def setE (K : Kn) (q : Nat × Int × Int) : Kn := (q :: kE K, kN K, kG K, kD K, kC K, kA K, kg K)
def kfresh (K : Kn) (lo hi : Int) : Kn × Nat := (((kN K, lo, hi) :: kE K, kN K + 1, kG K, kD K, kC K, kA K, kg K), kN K)
def kdef (K : Kn) (t : Tm) (lo hi : Int) : Kn × Nat := match dlk (kD K) t with
  | some s => (K, s)
  | none => (((kN K, lo, hi) :: kE K, kN K + 1, kG K, (t, kN K) :: kD K, kC K, kA K, kg K), kN K)
def kconst (K : Kn) (c : Int) : Kn × Nat := kdef K (0, c, 0) c c
/-- the invariant's intervals -/
def iv (k j : Nat) : Int × Int := match pk tiv k with
  | none => (lo32, hi32)
  | some q => match pk q.1 j with
    | some r => r
    | none => q.2
def ivAll (k : Nat) : Int × Int := match pk tiv k with
  | none => (lo32, hi32)
  | some q => q.1.foldl (fun r z => (min r.1 z.2.1, max r.2 z.2.2)) q.2
def ivr (k : Nat) (l h : Int) : Int × Int := if l = h then iv k l.toNat else ivAll k
def sub (lo hi lo' hi' : Int) : Bool := decide (lo' ≤ lo) && decide (hi ≤ hi')
def okSt (k : Nat) (l h lo hi : Int) : Bool := match pk tiv k with
  | none => sub lo hi lo32 hi32
  | some q => sub lo hi q.2.1 q.2.2 && q.1.all (fun z => decide ((z.1 : Int) < l) || decide (h < (z.1 : Int)) || sub lo hi z.2.1 z.2.2)
def kslot (K : Kn) (a j : Nat) : Kn × Nat := match clk (kC K) a j with
  | some s => (K, s)
  | none => (((kN K, (iv a j).1, (iv a j).2) :: kE K, kN K + 1, kG K, kD K, ((a, j), kN K) :: kC K, kA K, kg K), kN K)
def gq : Nat → List (Nat × Nat × Int) → Nat → Nat → Int → Bool
  | 0, _, _, _, _ => false
  | n + 1, G, a, b, c => (Nat.beq a b && decide (c ≤ 0)) || G.any (fun q => Nat.beq q.1 a && gq n G q.2.1 b (c - q.2.2))
def giv (K : Kn) (a b : Nat) (c : Int) : Bool := match kiv K a, kiv K b with
  | some p, some q => decide (q.2 + c ≤ p.1)
  | _, _ => false
def geq (K : Kn) (a b : Nat) (c : Int) : Bool := giv K a b c || gq 4 (kG K) a b c
def drv (G : List (Nat × Nat × Int)) (a b : Nat) (c : Int) : List (Nat × Nat × Int) := G.filterMap (fun q => bif Nat.beq q.1 b then some (a, q.2.1, c + q.2.2) else none)
/-- a fact: a is at least b and c more -/
def addf (K : Kn) (a b : Nat) (c : Int) : Kn := match kiv K a, kiv K b with
  | some p, some q => ((a, max p.1 (q.1 + c), p.2) :: (b, q.1, min q.2 (p.2 - c)) :: kE K, kN K, (a, b, c) :: (drv (kG K) a b c ++ kG K), kD K, kC K, kA K, kg K)
  | _, _ => K
def fit (lo hi lo' hi' : Int) : Int × Int := if lo' ≤ lo ∧ hi ≤ hi' then (lo, hi) else (lo', hi')
def bI (op : Nat) (a b : Int × Int) (F : Int × Int) : Int × Int := match op with
  | 1 => fit (a.1 + b.1) (a.2 + b.2) F.1 F.2
  | 2 => fit (a.1 - b.2) (a.2 - b.1) F.1 F.2
  | 3 => fit (min (min (a.1 * b.1) (a.1 * b.2)) (min (a.2 * b.1) (a.2 * b.2))) (max (max (a.1 * b.1) (a.1 * b.2)) (max (a.2 * b.1) (a.2 * b.2))) F.1 F.2
  | 4 => if 0 ≤ a.1 ∧ 0 ≤ b.1 then (0, min a.2 b.2) else if 0 ≤ b.1 then (0, b.2) else if 0 ≤ a.1 then (0, a.2) else F
  | 8 => if 0 ≤ a.1 then (0, a.2) else F
  | 10 => if 0 ≤ a.1 ∧ 1 ≤ b.1 then (0, a.2) else F
  | 11 => if 0 ≤ a.1 ∧ 1 ≤ b.1 then (0, b.2 - 1) else F
  | 12 => (max a.1 b.1, max a.2 b.2)
  | 13 => (min a.1 b.1, min a.2 b.2)
  | _ => F
/-- the sum with a constant that stays in the range: two facts -/
def addfs (K : Kn) (s a : Nat) (c : Int) : Kn := (kE K, kN K, (s, a, c) :: (drv (kG K) s a c ++ (a, s, -c) :: kG K), kD K, kC K, kA K, kg K)
def kbin (K : Kn) (op a b : Nat) : Option (Kn × Nat) := match kiv K a, kiv K b with
  | some p, some q =>
    let r := bI op p q (lo32, hi32)
    match dlk (kD K) (op, (a : Int), (b : Int)) with
    | some s => some (K, s)
    | none =>
      let z := kdef K (op, (a : Int), (b : Int)) r.1 r.2
      if op = 1 ∧ q.1 = q.2 ∧ lo32 ≤ p.1 + q.1 ∧ p.2 + q.1 ≤ hi32 then some (addfs z.1 z.2 a q.1, z.2)
      else if op = 2 ∧ q.1 = q.2 ∧ lo32 ≤ p.1 - q.1 ∧ p.2 - q.1 ≤ hi32 then some (addfs z.1 z.2 a (-q.1), z.2)
      else some z
  | _, _ => none
/-- what a comparison that holds tells; none: it can't hold. ('bad': a symbol without interval) -/
def rlt (K : Kn) (a b : Nat) : Option Kn := match kiv K a, kiv K b with
  | some p, some q => if ¬ p.1 < q.2 ∨ gq 4 (kG K) a b 0 = true then none
      else some ((a, p.1, min p.2 (q.2 - 1)) :: (b, max q.1 (p.1 + 1), q.2) :: kE K, kN K, (b, a, 1) :: kG K, kD K, kC K, kA K, kg K)
  | _, _ => some K
def rle (K : Kn) (a b : Nat) : Option Kn := match kiv K a, kiv K b with
  | some p, some q => if ¬ p.1 ≤ q.2 ∨ gq 4 (kG K) a b 1 = true then none
      else some ((a, p.1, min p.2 q.2) :: (b, max q.1 p.1, q.2) :: kE K, kN K, (b, a, 0) :: kG K, kD K, kC K, kA K, kg K)
  | _, _ => some K
def req (K : Kn) (a b : Nat) : Option Kn := match kiv K a, kiv K b with
  | some p, some q => if ¬ max p.1 q.1 ≤ min p.2 q.2 ∨ gq 4 (kG K) a b 1 = true ∨ gq 4 (kG K) b a 1 = true then none
      else some ((a, max p.1 q.1, min p.2 q.2) :: (b, max p.1 q.1, min p.2 q.2) :: kE K, kN K, (a, b, 0) :: (b, a, 0) :: kG K, kD K, kC K, kA K, kg K)
  | _, _ => some K
def cutO (p : Int × Int) (v : Int) : Int × Int := if p.1 = v then (p.1 + 1, p.2) else if p.2 = v then (p.1, p.2 - 1) else p
def rne (K : Kn) (a b : Nat) : Option Kn := match kiv K a, kiv K b with
  | some p, some q => if a = b ∨ (p.1 = p.2 ∧ q.1 = q.2 ∧ p.1 = q.1) ∨ (geq K a b 0 = true ∧ geq K b a 0 = true) then none
      else if q.1 = q.2 then some (setE K (a, cutO p q.1)) else if p.1 = p.2 then some (setE K (b, cutO q p.1)) else some K
  | _, _ => some K
def rcmp (K : Kn) (c : ClassFile.Cond) (a b : Nat) : Option Kn := match c with
  | .lt => rlt K a b
  | .gt => rlt K b a
  | .le => rle K a b
  | .ge => rle K b a
  | .eq => req K a b
  | .ne => rne K a b
def neg : ClassFile.Cond → ClassFile.Cond
  | .eq => .ne
  | .ne => .eq
  | .lt => .ge
  | .ge => .lt
  | .gt => .le
  | .le => .gt
/-- the ghost: the lines read so far are between places read -/
def gput (K : Kn) (a k v : Nat) : Bool :=
  if a = gO ∧ k = gL then
    (match kiv K v with | some p => decide (p.1 = 0 ∧ p.2 = 0) | none => false) ||
    (kg K && match clk (kC K) gO gL, clk (kC K) gO gP with
      | some L, some P => geq K L v (-1) && (match clk (kA K) gA L, clk (kA K) gB L with
        | some x, some z => geq K P x 1 && geq K P z 1
        | _, _ => false)
      | _, _ => false)
  else if a = gO ∧ k = gP then
    (match clk (kC K) gO gL with | some L => (match kiv K L with | some p => decide (p.2 ≤ 0) | none => false) | none => false) ||
    (kg K && match clk (kC K) gO gP with | some P => (match kiv K P with | some p => decide (p.2 ≤ 0) | none => false) | none => false)
  else kg K
def gast (K : Kn) (a i : Nat) : Bool :=
  if a = gA ∨ a = gB then kg K && (match clk (kC K) gO gL with | some L => geq K i L 0 | none => false) else kg K
def agt (lv : ALv) (k t : Nat) : Option AV := match lv[k]? with
  | some (some av) => bif Nat.beq av.1 t then some av else none
  | _ => none
def asl1 (lv : ALv) (i : Nat) (av : AV) : ALv := match i with
  | 0 => lv.set 0 (some av)
  | j + 1 => (match lv[j]? with | some (some w) => bif Nat.beq w.1 1 then lv.set j none else lv | _ => lv).set (j + 1) (some av)
def asl2 (lv : ALv) (i : Nat) (av : AV) : ALv := (asl1 lv i av).set (i + 1) none
abbrev Ars : Type := Kn × ALv × List AV
def a1 (st : List AV) (t : Nat) (f : Nat → List AV → Option Ars) : Option Ars := match st with
  | av :: r => bif Nat.beq av.1 t then f av.2 r else none
  | _ => none
def pushC (K : Kn) (lv : ALv) (st : List AV) (t : Nat) (c : Int) : Option Ars := some ((kconst K c).1, lv, (t, (kconst K c).2) :: st)
def abin (K : Kn) (lv : ALv) (st : List AV) (op : Nat) : Option Ars := a1 st 0 fun b r => a1 r 0 fun a r => (kbin K op a b).bind fun z => some (z.1, lv, (0, z.2) :: r)
def alng (K : Kn) (lv : ALv) (st : List AV) (op : Nat) : Option Ars := a1 st 1 fun b r => a1 r 1 fun a r => match kiv K a, kiv K b with
  | some p, some q => let z := bI op p q (lo64, hi64); let w := kfresh K z.1 z.2; some (w.1, lv, (1, w.2) :: r)
  | _, _ => none
def nz (K : Kn) (b : Nat) : Bool := match kiv K b with
  | some q => decide (1 ≤ q.1) || decide (q.2 ≤ -1)
  | none => false
def idxOK (K : Kn) (i n : Nat) : Option (Int × Int) := match kiv K i with
  | some p => if 0 ≤ p.1 ∧ p.2 < (n : Int) then some p else none
  | none => none
/-- an element is read: known, or new -/
def kelem (K : Kn) (a i : Nat) (lo hi : Int) : Kn × Nat := match clk (kA K) a i with
  | some s => (K, s)
  | none => (((kN K, lo, hi) :: kE K, kN K + 1, kG K, kD K, kC K, ((a, i), kN K) :: kA K, kg K), kN K)
def inP (l : List (Nat × Nat)) (a j : Nat) : Bool := l.any (fun q => Nat.beq q.1 a && Nat.beq q.2 j)
def inN1 (l : List Nat) (a : Nat) : Bool := l.any (fun q => Nat.beq q a)
def putS (K : Kn) (a k v : Nat) : Kn := (kE K, kN K, kG K, kD K, ((a, k), v) :: (kC K).filter (fun q => !(Nat.beq q.1.1 a && Nat.beq q.1.2 k)), (kA K).filter (fun q => !(Nat.beq q.1.1 a)), gput K a k v)
def putA (K : Kn) (a i v : Nat) : Kn := (kE K, kN K, kG K, kD K, (kC K).filter (fun q => !(Nat.beq q.1.1 a)), ((a, i), v) :: (kA K).filter (fun q => !(Nat.beq q.1.1 a)), gast K a i)
def astA (am : List Nat) (K : Kn) (lv : ALv) (st : List AV) (z : Bool) : Option Ars := a1 st 0 fun v r => a1 r 0 fun i r => a1 r 2 fun a r =>
  (arrN z a).bind fun n => (idxOK K i n).bind fun p => (kiv K v).bind fun w =>
    if okSt a p.1 p.2 w.1 w.2 = true ∧ inN1 am a = true ∧ inN1 prA a = false ∧ (z = true → 0 ≤ w.1 ∧ w.2 ≤ 1) then some (putA K a i v, lv, r) else none
def aldA (K : Kn) (lv : ALv) (st : List AV) (scr : Option Nat) (z : Bool) : Option Ars := a1 st 0 fun i r => a1 r 2 fun a r =>
  match scr, Nat.beq a 1000 with
  | some L, true => bif z then none else (match kiv K i with
    | some p => if 0 ≤ p.1 ∧ geq K L i 1 = true then let w := kelem K 1000 i lo32 hi32; some (w.1, lv, (0, w.2) :: r) else none
    | none => none)
  | none, true => none
  | _, false => (arrN z a).bind fun n => (idxOK K i n).bind fun p => let q := ivr a p.1 p.2; let w := kelem K a i q.1 q.2; some (w.1, lv, (0, w.2) :: r)
def astep (md : List (Nat × Nat)) (am : List Nat) (scr : Option Nat) (oc : Nat) (i : Instr) (K : Kn) (lv : ALv) (st : List AV) : Option Ars :=
  match i with
  | .iconst n => pushC K lv st 0 (Int32.ofInt n).toInt
  | .bipush n => pushC K lv st 0 (Int8.ofInt n).toInt32.toInt
  | .sipush n => pushC K lv st 0 (Int16.ofInt n).toInt32.toInt
  | .lconst n => pushC K lv st 1 (Int64.ofNat (n : Nat)).toInt
  | .ldc idx => (cres oc idx).bind fun v => pushC K lv st 0 v.toInt
  | .ldc_w idx => (cres oc idx).bind fun v => pushC K lv st 0 v.toInt
  | .ldc2_w idx => (lres oc idx).bind fun v => pushC K lv st 1 v.toInt
  | .iload_n k => (agt lv k 0).bind fun av => some (K, lv, av :: st)
  | .iload k => (agt lv k 0).bind fun av => some (K, lv, av :: st)
  | .lload_n k => (agt lv k 1).bind fun av => some (K, lv, av :: st)
  | .lload k => (agt lv k 1).bind fun av => some (K, lv, av :: st)
  | .aload_n k => (agt lv k 2).bind fun av => some (K, lv, av :: st)
  | .aload k => (agt lv k 2).bind fun av => some (K, lv, av :: st)
  | .istore_n k => a1 st 0 fun s r => if (k : Nat) < lv.length then some (K, asl1 lv k (0, s), r) else none
  | .istore k => a1 st 0 fun s r => if (k : Nat) < lv.length then some (K, asl1 lv k (0, s), r) else none
  | .lstore_n k => a1 st 1 fun s r => if (k : Nat) + 1 < lv.length then some (K, asl2 lv k (1, s), r) else none
  | .lstore k => a1 st 1 fun s r => if (k : Nat) + 1 < lv.length then some (K, asl2 lv k (1, s), r) else none
  | .iinc k n => (agt lv k 0).bind fun av => let c := kconst K (Int32.ofInt n).toInt; (kbin c.1 1 av.2 c.2).bind fun z => some (z.1, asl1 lv k (0, z.2), st)
  | .iadd => abin K lv st 1
  | .isub => abin K lv st 2
  | .imul => abin K lv st 3
  | .iand => abin K lv st 4
  | .ior => abin K lv st 5
  | .ixor => abin K lv st 6
  | .ishl => abin K lv st 7
  | .ishr => abin K lv st 8
  | .iushr => abin K lv st 9
  | .idiv => a1 st 0 fun b _ => if nz K b = true then abin K lv st 10 else none
  | .irem => a1 st 0 fun b _ => if nz K b = true then abin K lv st 11 else none
  | .i2l => a1 st 0 fun s r => some (K, lv, (1, s) :: r)
  | .l2i => a1 st 1 fun s r => match kiv K s with
      | some p => if lo32 ≤ p.1 ∧ p.2 ≤ hi32 then some (K, lv, (0, s) :: r) else let w := kfresh K lo32 hi32; some (w.1, lv, (0, w.2) :: r)
      | none => none
  | .ladd => alng K lv st 1
  | .lmul => alng K lv st 3
  | .land => alng K lv st 4
  | .ldiv => a1 st 1 fun b _ => if nz K b = true then alng K lv st 10 else none
  | .lrem => a1 st 1 fun b _ => if nz K b = true then alng K lv st 11 else none
  | .lcmp => a1 st 1 fun b r => a1 r 1 fun a r => let w := kdef K (50, (a : Int), (b : Int)) (-1) 1; some (w.1, lv, (0, w.2) :: r)
  | .dup => match st with
    | v :: r => bif Nat.beq v.1 1 then none else some (K, lv, v :: v :: r)
    | _ => none
  | .dup2 => match st with
    | v :: w :: r => bif (Nat.beq v.1 1 || Nat.beq w.1 1) then none else some (K, lv, v :: w :: v :: w :: r)
    | _ => none
  | .pop => match st with
    | v :: r => bif Nat.beq v.1 1 then none else some (K, lv, r)
    | _ => none
  | .getfield idx => a1 st 2 fun a r => (fres oc idx).bind fun q => (objF a q.1).bind fun fl => match fl[q.2]? with
      | some none => some ((kslot K a q.2).1, lv, (0, (kslot K a q.2).2) :: r)
      | some (some t) => some (K, lv, (2, t) :: r)
      | none => none
  | .putfield idx => a1 st 0 fun v r => a1 r 2 fun a r => (fres oc idx).bind fun q => (objF a q.1).bind fun fl => match fl[q.2]? with
      | some none => (kiv K v).bind fun w => if sub w.1 w.2 (iv a q.2).1 (iv a q.2).2 = true ∧ inP md a q.2 = true ∧ inP prS a q.2 = false then some (putS K a q.2 v, lv, r) else none
      | _ => none
  | .iaload => aldA K lv st scr false
  | .baload => aldA K lv st scr true
  | .iastore => astA am K lv st false
  | .bastore => astA am K lv st true
  | .arraylength => a1 st 2 fun a r => match scr, Nat.beq a 1000 with
      | some L, true => some (K, lv, (0, L) :: r)
      | none, true => none
      | _, false => (arrN false a).bind fun n => some ((kconst K (Int32.ofNat n).toInt).1, lv, (0, (kconst K (Int32.ofNat n).toInt).2) :: r)
  | _ => none
