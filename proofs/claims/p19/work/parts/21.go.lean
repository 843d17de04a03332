abbrev Pt : Type := Nat × Nat × Nat
abbrev Fc : Type := Pt × Pt × Int
/-- an end of a method: the answer's interval, its term, facts, intervals of slots, the ghost -/
abbrev Alt : Type := Int × Int × Option (Nat × Nat × Nat) × List Fc × List (Nat × Nat × Int × Int) × Bool
abbrev ArgS : Type := Nat × Int × Int
/-- method, arguments, slots and rows that may change, tracked slots, facts before, the ghost before, ends -/
abbrev Con : Type := Nat × List ArgS × List (Nat × Nat) × List Nat × List (Nat × Nat) × List Fc × Bool × List Alt
def cY (c : Con) : Nat := c.1
def cAr (c : Con) : List ArgS := c.2.1
def cMd (c : Con) : List (Nat × Nat) := c.2.2.1
def cAm (c : Con) : List Nat := c.2.2.2.1
def cTk (c : Con) : List (Nat × Nat) := c.2.2.2.2.1
def cPr (c : Con) : List Fc := c.2.2.2.2.2.1
def cGp (c : Con) : Bool := c.2.2.2.2.2.2.1
def cAl (c : Con) : List Alt := c.2.2.2.2.2.2.2
/-- a loop's head: where, locals, slots, facts, ghost, measure -/
abbrev Cut : Type := Nat × List (Option ArgS) × List (Nat × Nat × Int × Int) × List Fc × Bool × List (Pt × Bool)
abbrev Fr : Type := Nat × Nat × ALv × List AV
abbrev Es : Type := List ((Nat × Nat) × Nat)
def psym (K : Kn) (ea : List (Option Nat)) (es : Es) (ret : Option Nat) (lv : ALv) (p : Pt) : Option (Kn × Nat) := match p.1 with
  | 0 => match ea[p.2.1]? with
    | some (some s) => some (K, s)
    | _ => none
  | 1 => (clk es p.2.1 p.2.2).map fun s => (K, s)
  | 2 => some (kslot K p.2.1 p.2.2)
  | 3 => ret.map fun s => (K, s)
  | 4 => (agt lv p.2.1 0).map fun av => (K, av.2)
  | _ => some (kconst K (p.2.1 : Int))
def chkFc (K : Kn) (ea : List (Option Nat)) (es : Es) (ret : Option Nat) (lv : ALv) (f : Fc) : Bool := match psym K ea es ret lv f.1 with
  | some z => match psym z.1 ea es ret lv f.2.1 with
    | some w => geq w.1 z.2 w.2 f.2.2
    | none => false
  | none => false
def asmFc (ea : List (Option Nat)) (es : Es) (ret : Option Nat) (lv : ALv) : Kn → List Fc → Option Kn
  | K, [] => some K
  | K, f :: t => match psym K ea es ret lv f.1 with
    | some z => match psym z.1 ea es ret lv f.2.1 with
      | some w => asmFc ea es ret lv (addf w.1 z.2 w.2 f.2.2) t
      | none => none
    | none => none
def asmSl : Kn → List (Nat × Nat × Int × Int) → Option Kn
  | K, [] => some K
  | K, q :: t => match kiv (kslot K q.1 q.2.1).1 (kslot K q.1 q.2.1).2 with
    | some p => asmSl (setE (kslot K q.1 q.2.1).1 ((kslot K q.1 q.2.1).2, max q.2.2.1 p.1, min q.2.2.2 p.2)) t
    | none => none
def chkSl (K : Kn) (q : Nat × Nat × Int × Int) : Bool := match kiv (kslot K q.1 q.2.1).1 (kslot K q.1 q.2.1).2 with
  | some p => sub p.1 p.2 q.2.2.1 q.2.2.2
  | none => false
def mkEs : Kn → List (Nat × Nat) → Kn × Es
  | K, [] => (K, [])
  | K, q :: t => ((mkEs (kslot K q.1 q.2).1 t).1, (q, (kslot K q.1 q.2).2) :: (mkEs (kslot K q.1 q.2).1 t).2)
def eaOf (args : List AV) : List (Option Nat) := args.map fun av => bif Nat.beq av.1 0 then some av.2 else none
def argOK (K : Kn) (av : AV) (s : ArgS) : Bool := match s.1 with
  | 0 => Nat.beq av.1 0 && (match kiv K av.2 with | some p => sub p.1 p.2 s.2.1 s.2.2 | none => false)
  | _ => Nat.beq s.1 2 && Nat.beq av.1 2 && Nat.beq av.2 s.2.1.toNat
def argsOK (K : Kn) : List AV → List ArgS → Bool
  | [], [] => true
  | av :: t, s :: u => argOK K av s && argsOK K t u
  | _, _ => false
def cok (K : Kn) (args : List AV) (y : Nat) (c : Con) : Bool := Nat.beq (cY c) y && argsOK K args (cAr c) && (cPr c).all (chkFc (mkEs K (cTk c)).1 (eaOf args) (mkEs K (cTk c)).2 none []) && (!(cGp c) || kg K)
def fcon (K : Kn) (args : List AV) (y : Nat) : List Con → Option Con
  | [] => none
  | c :: t => bif cok K args y c then some c else fcon K args y t
/-- behind a call: what may have changed is forgotten -/
def forg (K : Kn) (c : Con) (g : Bool) : Kn := (kE K, kN K, kG K, kD K, (kC K).filter (fun q => !(inP (cMd c) q.1.1 q.1.2) && !(inN1 (cAm c) q.1.1)), (kA K).filter (fun q => !(inN1 (cAm c) q.1.1) && !((cMd c).any (fun z => Nat.beq z.1 q.1.1))), g)
def altR (K : Kn) (ea : List (Option Nat)) (a : Alt) : Option (Kn × Nat) := match a.2.2.1 with
  | none => some (kfresh K a.1 a.2.1)
  | some t => match ea[t.2.1]?, ea[t.2.2]? with
    | some (some i), some (some j) => bif Nat.beq t.1 15 then some (kdef K (15, (i : Int), (j : Int)) a.1 a.2.1) else none
    | _, _ => none
def altK (K : Kn) (ea : List (Option Nat)) (es : Es) (c : Con) (rk : Nat) (a : Alt) : Option (Kn × List AV) :=
  match rk with
  | 0 => (asmSl (forg K c a.2.2.2.2.2) a.2.2.2.2.1).bind fun K2 => (asmFc ea es none [] K2 a.2.2.2.1).bind fun K3 => some (K3, [])
  | _ => (altR (forg K c a.2.2.2.2.2) ea a).bind fun z => (asmSl z.1 a.2.2.2.2.1).bind fun K2 => (asmFc ea es (some z.2) [] K2 a.2.2.2.1).bind fun K3 => some (K3, [(0, z.2)])
def altOK (K : Kn) (ea : List (Option Nat)) (es : Es) (r : Option Nat) (a : Alt) : Bool :=
  (match r with
    | none => true
    | some s => (match kiv K s with | some p => sub p.1 p.2 a.1 a.2.1 | none => false) && (match a.2.2.1 with
      | none => true
      | some t => match ea[t.2.1]?, ea[t.2.2]? with
        | some (some i), some (some j) => Nat.beq t.1 15 && (match dlk (kD K) (15, (i : Int), (j : Int)) with | some w => Nat.beq w s | none => false)
        | _, _ => false)) &&
  a.2.2.2.2.1.all (chkSl K) && a.2.2.2.1.all (chkFc K ea es r []) && (!a.2.2.2.2.2 || kg K)
def lvOK (K : Kn) : ALv → List (Option ArgS) → Bool
  | [], [] => true
  | _ :: t, none :: u => lvOK K t u
  | some av :: t, some s :: u => (match s.1 with
      | 2 => Nat.beq av.1 2 && Nat.beq av.2 s.2.1.toNat
      | 0 => Nat.beq av.1 0 && (match kiv K av.2 with | some p => sub p.1 p.2 s.2.1 s.2.2 | none => false)
      | 1 => Nat.beq av.1 1 && (match kiv K av.2 with | some p => sub p.1 p.2 s.2.1 s.2.2 | none => false)
      | _ => false) && lvOK K t u
  | _, _ => false
def msym (ea : List (Option Nat)) (es : Es) (lv : ALv) : Kn → List (Pt × Bool) → Option (Kn × List (Nat × Bool))
  | K, [] => some (K, [])
  | K, q :: t => (psym K ea es none lv q.1).bind fun z => (msym ea es lv z.1 t).bind fun w => some (w.1, (z.2, q.2) :: w.2)
def mlt (K : Kn) : List (Nat × Bool) → List (Nat × Bool) → Bool
  | [], _ :: _ => true
  | (a, u) :: s, (b, w) :: t => (u == w) && ((bif u then geq K b a 1 else geq K a b 1) || ((Nat.beq a b || (geq K a b 0 && geq K b a 0)) && mlt K s t))
  | _, _ => false
def entl (K : Kn) (ea : List (Option Nat)) (es : Es) (sm : Option (List (Nat × Bool))) (lv : ALv) (c : Cut) : Bool :=
  lvOK K lv c.2.1 && c.2.2.1.all (chkSl K) && c.2.2.2.1.all (chkFc K ea es none lv) && (!c.2.2.2.2.1 || kg K) && (match sm with
    | none => true
    | some m => match msym ea es lv K c.2.2.2.2.2 with
      | some z => mlt z.1 m z.2
      | none => false)
def splt (y pc : Nat) (K : Kn) (lv : ALv) : Option (Kn × Kn) := match pk spl (y * 100000 + pc) with
  | none => none
  | some q => match agt lv q.1 0 with
    | none => none
    | some av => match kiv K av.2 with
      | none => none
      | some p => if p.1 < q.2 ∧ q.2 ≤ p.2 then some (setE K (av.2, p.1, q.2 - 1), setE K (av.2, q.2, p.2)) else none
def acat (av : AV) : Nat := bif Nat.beq av.1 1 then 2 else 1
def alva : List AV → ALv
  | [] => []
  | v :: vs => bif Nat.beq v.1 1 then some v :: none :: alva vs else some v :: alva vs
def aent (y : Nat) (vs : List AV) : ALv := alva vs ++ List.replicate (mML y - (alva vs).length) none
def rokB (K : Kn) (y s : Nat) : Bool := Nat.beq (mRK y) 1 || (Nat.beq (mRK y) 2 && (match kiv K s with | some p => sub p.1 p.2 0 1 | none => false))
/-- the pair that a test against 0 is about -/
def tst (K : Kn) (s : Nat) : Kn × Nat × Nat := match dcmp (kD K) s with
  | some q => (K, q.1, q.2)
  | none => ((kconst K 0).1, s, (kconst K 0).2)
def acpB (am : List Nat) (K : Kn) (st : List AV) : Option (Kn × List AV) := match st with
  | n :: d :: b :: s :: a :: r => if Nat.beq n.1 0 = true ∧ Nat.beq d.1 0 = true ∧ Nat.beq b.1 2 = true ∧ Nat.beq s.1 0 = true ∧ Nat.beq a.1 2 = true then
      match arrN false a.2, arrN false b.2, kiv K n.2, kiv K d.2, kiv K s.2, pk tiv b.2 with
      | some na, some nb, some pn, some pd, some ps, none => if 0 ≤ pn.1 ∧ 0 ≤ pd.1 ∧ 0 ≤ ps.1 ∧ ps.2 + pn.2 ≤ (na : Int) ∧ pd.2 + pn.2 ≤ (nb : Int) ∧ inN1 am b.2 = true ∧ inN1 prA b.2 = false ∧ ¬ b.2 = gA ∧ ¬ b.2 = gB ∧ ((r.map acat).sum ≤ 8) then
          some ((kE K, kN K, kG K, kD K, (kC K).filter (fun q => !(Nat.beq q.1.1 b.2)), (kA K).filter (fun q => !(Nat.beq q.1.1 b.2)), kg K), r) else none
      | some na, some nb, some pn, some pd, some ps, some q => if 0 ≤ pn.1 ∧ 0 ≤ pd.1 ∧ 0 ≤ ps.1 ∧ ps.2 + pn.2 ≤ (na : Int) ∧ pd.2 + pn.2 ≤ (nb : Int) ∧ inN1 am b.2 = true ∧ inN1 prA b.2 = false ∧ ¬ b.2 = gA ∧ ¬ b.2 = gB ∧ ((r.map acat).sum ≤ 8) ∧ q.1 = [] ∧ sub (ivAll a.2).1 (ivAll a.2).2 q.2.1 q.2.2 = true then
          some ((kE K, kN K, kG K, kD K, (kC K).filter (fun q => !(Nat.beq q.1.1 b.2)), (kA K).filter (fun q => !(Nat.beq q.1.1 b.2)), kg K), r) else none
      | _, _, _, _, _, _ => none
    else none
  | _ => none
section Go
variable (ct : List Con) (con : Con) (cuts : List Cut) (ea : List (Option Nat)) (es : Es) (sm : Option (List (Nat × Bool))) (scr : Option Nat)
def go : Nat → Kn → Nat → Nat → ALv → List AV → List Fr → Bool → Bool
  | 0, _, _, _, _, _, _, _ => false
  | n + 1, K, y, pc, lv, st, fr, first =>
    match (bif (fr.isEmpty && !first) then cuts.filter (fun c => Nat.beq c.1 pc) else []) with
    | c :: cs => st.isEmpty && (c :: cs).any (entl K ea es sm lv)
    | [] => match splt y pc K lv with
      | some q => go n q.1 y pc lv st fr true && go n q.2 y pc lv st fr true
      | none => match ins y pc with
        | none => false
        | some (i, _) => match i with
          | .ireturn => match st with
            | [av] => Nat.beq av.1 0 && rokB K y av.2 && (match fr with
              | [] => (cAl con).any (altOK K ea es (some av.2))
              | f :: fr' => go n K f.1 f.2.1 f.2.2.1 (av :: f.2.2.2) fr' false)
            | _ => false
          | .return_ => st.isEmpty && Nat.beq (mRK y) 0 && (match fr with
              | [] => (cAl con).any (altOK K ea es none)
              | f :: fr' => go n K f.1 f.2.1 f.2.2.1 f.2.2.2 fr' false)
          | .goto off => match tgt pc off with
            | some t => go n K y t lv st fr false
            | none => false
          | .ifCond c off => match st, tgt pc off with
            | av :: r, some t => Nat.beq av.1 0 &&
                (match rcmp (tst K av.2).1 c (tst K av.2).2.1 (tst K av.2).2.2 with
                  | some K1 => go n K1 y t lv r fr false
                  | none => true) &&
                (match rcmp (tst K av.2).1 (neg c) (tst K av.2).2.1 (tst K av.2).2.2 with
                  | some K1 => go n K1 y (pc + 3) lv r fr false
                  | none => true)
            | _, _ => false
          | .if_icmp c off => match st, tgt pc off with
            | b :: a :: r, some t => Nat.beq a.1 0 && Nat.beq b.1 0 &&
                (match rcmp K c a.2 b.2 with
                  | some K1 => go n K1 y t lv r fr false
                  | none => true) &&
                (match rcmp K (neg c) a.2 b.2 with
                  | some K1 => go n K1 y (pc + 3) lv r fr false
                  | none => true)
            | _, _ => false
          | .tableswitch d lo hi offs => match st, tgt pc d with
            | av :: r, some td => Nat.beq av.1 0 && (match kiv K av.2 with
                | some p => (List.range (hi - lo + 1).toNat).all (fun j => (decide (lo + (j : Int) < p.1) || decide (p.2 < lo + (j : Int))) || (match offs[j]? with
                      | some off => match tgt pc off with
                        | some t => go n (setE K (av.2, lo + (j : Int), lo + (j : Int))) y t lv r fr false
                        | none => false
                      | none => false)) &&
                    (decide (lo ≤ p.1) || go n (setE K (av.2, p.1, min p.2 (lo - 1))) y td lv r fr false) &&
                    (decide (p.2 ≤ hi) || go n (setE K (av.2, max p.1 (hi + 1), p.2)) y td lv r fr false)
                | none => false)
            | _, _ => false
          | .invokevirtual idx => match pcall y idx with
            | some (0, y') => match (st.take (mNP y' + 1)).reverse with
              | (2, b) :: args => Nat.beq args.length (mNP y') && (objF b (mOC y')).isSome && decide (((st.drop (mNP y' + 1)).map acat).sum ≤ 8) && decide ((alva ((2, b) :: args)).length ≤ mML y') &&
                  (bif inN1 inl y' then go n K y' 0 (aent y' ((2, b) :: args)) [] ((y, pc + 3, lv, st.drop (mNP y' + 1)) :: fr) false
                  else match fcon K ((2, b) :: args) y' ct with
                    | some c => (cMd c).all (fun q => inP (cMd con) q.1 q.2) && (cAm c).all (inN1 (cAm con)) && (cAl c).all (fun a => match altK (mkEs K (cTk c)).1 (eaOf ((2, b) :: args)) (mkEs K (cTk c)).2 c (mRK y') a with
                        | some z => go n z.1 y (pc + 3) lv (z.2 ++ st.drop (mNP y' + 1)) fr false
                        | none => false)
                    | none => false)
              | _ => false
            | _ => false
          | .invokestatic idx => match pcall y idx with
            | some (3, _) => match acpB (cAm con) K st with
              | some z => go n z.1 y (pc + 3) lv z.2 fr false
              | none => false
            | some (4, _) => match abin K lv st 12 with
              | some z => decide (((st.drop 2).map acat).sum ≤ 8) && go n z.1 y (pc + 3) z.2.1 z.2.2 fr false
              | none => false
            | some (5, _) => match abin K lv st 13 with
              | some z => decide (((st.drop 2).map acat).sum ≤ 8) && go n z.1 y (pc + 3) z.2.1 z.2.2 fr false
              | none => false
            | some (k, y') => (Nat.beq k 1 || Nat.beq k 2) && Nat.beq ((st.take (mNP y')).reverse).length (mNP y') && decide (((st.drop (mNP y')).map acat).sum ≤ 8) && decide ((alva ((st.take (mNP y')).reverse)).length ≤ mML y') &&
                  (bif inN1 inl y' then go n K y' 0 (aent y' ((st.take (mNP y')).reverse)) [] ((y, pc + 3, lv, st.drop (mNP y')) :: fr) false
                  else match fcon K ((st.take (mNP y')).reverse) y' ct with
                    | some c => (cMd c).all (fun q => inP (cMd con) q.1 q.2) && (cAm c).all (inN1 (cAm con)) && (cAl c).all (fun a => match altK (mkEs K (cTk c)).1 (eaOf ((st.take (mNP y')).reverse)) (mkEs K (cTk c)).2 c (mRK y') a with
                        | some z => go n z.1 y (pc + 3) lv (z.2 ++ st.drop (mNP y')) fr false
                        | none => false)
                    | none => false)
            | none => false
          | i => match astep (cMd con) (cAm con) (match fr with | [] => scr | _ => none) (mOC y) i K lv st with
            | some q => go n q.1 y (pc + ilen i) q.2.1 q.2.2 fr false
            | none => false
end Go
/-- the start of a method -/
def stArg : Kn → List ArgS → Kn × List AV
  | K, [] => (K, [])
  | K, s :: t => match s.1 with
    | 0 => ((stArg (kfresh K s.2.1 s.2.2).1 t).1, (0, (kfresh K s.2.1 s.2.2).2) :: (stArg (kfresh K s.2.1 s.2.2).1 t).2)
    | _ => ((stArg K t).1, (2, s.2.1.toNat) :: (stArg K t).2)
def K0 (g : Bool) : Kn := ([], 0, [], [], [], [], g)
/-- tracked slots at a cut: what they held at the entry -/
def stEs : Kn → List (Nat × Nat) → Kn × Es
  | K, [] => (K, [])
  | K, q :: t => ((stEs (kfresh K (iv q.1 q.2).1 (iv q.1 q.2).2).1 t).1, (q, (kfresh K (iv q.1 q.2).1 (iv q.1 q.2).2).2) :: (stEs (kfresh K (iv q.1 q.2).1 (iv q.1 q.2).2).1 t).2)
def stLv : Kn → List (Option ArgS) → Kn × ALv
  | K, [] => (K, [])
  | K, none :: t => ((stLv K t).1, none :: (stLv K t).2)
  | K, some s :: t => match s.1 with
    | 2 => ((stLv K t).1, some (2, s.2.1.toNat) :: (stLv K t).2)
    | 0 => ((stLv (kfresh K s.2.1 s.2.2).1 t).1, some (0, (kfresh K s.2.1 s.2.2).2) :: (stLv (kfresh K s.2.1 s.2.2).1 t).2)
    | 1 => ((stLv (kfresh K s.2.1 s.2.2).1 t).1, some (1, (kfresh K s.2.1 s.2.2).2) :: (stLv (kfresh K s.2.1 s.2.2).1 t).2)
    | _ => ((stLv K t).1, none :: (stLv K t).2)
def chkEntry (ct : List Con) (con : Con) (cuts : List Cut) (n : Nat) : Bool :=
  let z := stArg (K0 (cGp con)) (cAr con)
  let w := mkEs z.1 (cTk con)
  decide ((alva z.2).length ≤ mML (cY con)) && (match asmFc (eaOf z.2) w.2 none [] w.1 (cPr con) with
    | some K => go ct con cuts (eaOf z.2) w.2 none none n K (cY con) 0 (aent (cY con) z.2) [] [] false
    | none => false)
def chkCut (ct : List Con) (con : Con) (cuts : List Cut) (n : Nat) (lw : Bool) (c : Cut) : Bool :=
  let z := stArg (K0 c.2.2.2.2.1) (cAr con)
  let e := stEs z.1 (cTk con)
  let w := stLv e.1 c.2.1
  decide (c.2.2.2.2.2.length ≤ 6) && c.2.2.2.2.2.all (fun q => decide (q.1.1 < 5) || decide (q.1.2.1 < 1000)) && (match asmSl w.1 c.2.2.1 with
    | some K1 => match asmFc (eaOf z.2) e.2 none w.2 K1 c.2.2.2.1 with
      | some K2 => match msym (eaOf z.2) e.2 w.2 K2 c.2.2.2.2.2 with
        | some m => (match lw, (eaOf z.2)[1]? with
          | false, _ => go ct con cuts (eaOf z.2) e.2 (some m.2) none n m.1 (cY con) c.1 w.2 [] [] true
          | true, some (some L) => go ct con cuts (eaOf z.2) e.2 (some m.2) (some L) n m.1 (cY con) c.1 w.2 [] [] true
          | _, _ => false)
        | none => false
      | none => false
    | none => false)
def chkCon (ct : List Con) (con : Con) (cuts : List Cut) (n : Nat) : Bool := chkEntry ct con cuts n && cuts.all (chkCut ct con cuts n false)
