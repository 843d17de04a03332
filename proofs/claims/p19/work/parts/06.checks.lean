/-! the tables are right: what a program decides -/
def okW (i : Nat) (w : Jvm.Cond) : Bool := decide (wah i = some w)
theorem okW_mem {i : Nat} {w : Jvm.Cond} (h : okW i w = true) : w ∈ lw_tbl := wah_mem (of_decide_eq_true h)
def rtOf : Nat → Option FieldType
  | 1 => some .int
  | 2 => some .boolean
  | _ => none
def chkD1 (cd : ByteArray) (q : Nat × Instr × Nat) : Bool := decide (decode cd q.1 = .ok (q.2.1, q.2.2)) && (Nat.beq (ilen q.2.1) q.2.2 || isSw q.2.1)
def chkD (y : Nat) : Bool := match mi y with
  | (_, cd, _, _) => (pins.getD y []).all (chkD1 cd)
def chkDs (y a n : Nat) : Bool := match mi y with
  | (_, cd, _, _) => (((pins.getD y []).drop a).take n).all (chkD1 cd)
def isCd (o : Option Jvm.Cond) : Bool := match o with
  | some (.code _ _ _ _) => true
  | _ => false
def chkM (y : Nat) : Bool := match mi y with
  | (nm, _, ml, rt) => Nat.beq ml (mML y) && decide (rt = rtOf (mRK y)) && plainName nm.cls && decide (onm.getD (mOC y) "" = nm.cls) && (isCd (wah (mh.getD y 100000)) || Nat.beq y (nM - 1)) && decide (nm.cls ≠ "java/lang/invoke/MethodHandle") && decide (nm.cls ≠ "java/lang/invoke/VarHandle") && decide ((parseMethodDescriptor nm.desc).map (fun d => d.parameters.length) = some (mNP y))
def clNm (ci : Nat) : Option String := match vwCl[ci]? with
  | some q => some q.1
  | none => none
def chkC1 (own : String) (y idx k y' h1 h2 h3 h4 : Nat) : Bool := match k with
  | 3 => okW h1 (.methodLink own idx arraycopyName) && okW h2 (.native arraycopyName) && okW h3 (.static arraycopyName) && okW h4 (.initialized "java/lang/System") && decide (1 ≤ mFR y) && decide (26 ≤ mLO y)
  | 4 => okW h1 (.methodLink own idx Lib.Math.max.name) && okW h2 (.static Lib.Math.max.name) && okW h3 (.code Lib.Math.max.name Lib.Math.max.code 2 (some .int)) && okW h4 (.initialized "java/lang/Math") && decide (1 ≤ mFR y) && decide (21 ≤ mLO y)
  | 5 => okW h1 (.methodLink own idx Lib.Math.min.name) && okW h2 (.static Lib.Math.min.name) && okW h3 (.code Lib.Math.min.name Lib.Math.min.code 2 (some .int)) && okW h4 (.initialized "java/lang/Math") && decide (1 ≤ mFR y) && decide (21 ≤ mLO y)
  | 0 => match mi y' with
    | (nm, _, _, _) => okW h1 (.methodLink own idx nm) && okW h2 (.instanceMethod nm) && okW h3 (.selects nm.cls nm nm) && okW h4 (.initialized nm.cls) && decide (clNm (mOC y') = some nm.cls) && decide (mFR y' + 1 ≤ mFR y) && decide (8 + (mML y' + 11) + mLO y' ≤ mLO y) && decide (y' < nM - 1)
  | 1 => match mi y' with
    | (nm, _, _, _) => okW h1 (.methodLink own idx nm) && okW h2 (.static nm) && okW h4 (.initialized nm.cls) && decide (mFR y' + 1 ≤ mFR y) && decide (8 + (mML y' + 11) + mLO y' ≤ mLO y) && decide (y' < nM - 1)
  | 2 => match mi y' with
    | (nm, _, _, _) => okW h1 (.methodLinkNest own idx nm "MapDuty") && okW h2 (.static nm) && okW h4 (.initialized nm.cls) && decide (mFR y' + 1 ≤ mFR y) && decide (8 + (mML y' + 11) + mLO y' ≤ mLO y) && decide (y' < nM - 1)
  | _ => false
def chkC (y : Nat) : Bool := match mi y with
  | (nm, _, _, _) => (calls.getD y []).all (fun q => chkC1 nm.cls y q.1 q.2.1 q.2.2.1 q.2.2.2.1 q.2.2.2.2.1 q.2.2.2.2.2.1 q.2.2.2.2.2.2)
def fldT (ci k : Nat) : String × String × String × Bool := match vwCl[ci]? with
  | some q => q.2.1 k
  | none => ("", "", "", true)
def fldN (ci : Nat) : Nat := match vwCl[ci]? with
  | some q => q.2.2
  | none => 0
def chkP (y : Nat) : Bool := (pins.getD y []).all (fun q => match q.2.1 with
  | .putfield idx => match fres (mOC y) idx with
    | some (ci, k) => decide ((fldT ci k).2.2.2 = false) && decide ((fldT ci k).2.2.1 = "I")
    | none => true
  | _ => true)
def chkF (oc : Nat) : Bool := (flds.getD oc []).all (fun q => decide (q.2.2.1 < fldN q.2.1) && okW q.2.2.2 (.fieldLink (onm.getD oc "") q.1 (fldT q.2.1 q.2.2.1).1 (fldT q.2.1 q.2.2.1).2.1 (fldT q.2.1 q.2.2.1).2.2.1))
def chkK (oc : Nat) : Bool := (csts.getD oc []).all (fun q => okW q.2.2 (.constant (onm.getD oc "") q.1 q.2.1)) && (cstl.getD oc []).all (fun q => okW q.2.2 (.constantLong (onm.getD oc "") q.1 q.2.1))
theorem rng_all {f : Nat → Bool} (a n : Nat) (h : (List.range' a n).all f = true) : ∀ y, a ≤ y → y < a + n → f y = true := by
  intro y h1 h2
  exact List.all_eq_true.mp h y (by rw [List.mem_range']; exact ⟨y - a, by omega, by omega⟩)
theorem chunks_all {α : Type} {p : α → Bool} (l : List α) (n k : Nat) (hl : l.length ≤ n * k) (h : ∀ j, j < k → ((l.drop (n * j)).take n).all p = true) : ∀ q ∈ l, p q = true := by
  intro q hq
  obtain ⟨i, hi, e⟩ := List.getElem_of_mem hq
  have hn : 0 < n := by
    rcases Nat.eq_zero_or_pos n with z | z
    · subst z; simp at hl; subst hl; cases hq
    · exact z
  have hj : i / n < k := by
    rw [Nat.div_lt_iff_lt_mul hn]; rw [Nat.mul_comm k n]; omega
  refine List.all_eq_true.mp (h (i / n) hj) q ?_
  have h3 := Nat.div_add_mod i n
  have h4 := Nat.mod_lt i hn
  refine List.mem_of_getElem? (i := i % n) ?_
  rw [List.getElem?_take, if_pos h4, List.getElem?_drop, h3, List.getElem?_eq_getElem hi, e]
set_option maxRecDepth 20000 in
theorem kM_0 : (List.range' 0 nM).all chkM = true := by decide +kernel
set_option maxRecDepth 20000 in
theorem kP_0 : (List.range' 0 nM).all chkP = true := by decide +kernel
set_option maxRecDepth 20000 in
theorem kF_0 : (List.range' 0 14).all chkF = true := by decide +kernel
set_option maxRecDepth 20000 in
theorem kK_0 : (List.range' 0 14).all chkK = true := by decide +kernel
