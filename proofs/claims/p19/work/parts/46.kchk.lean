/-! the constructors' tables are right -/
def kRow (y : Nat) : KT := ktab.getD y (100000, 0, 0, 0, 0, 0, 0, 0)
def kH (y : Nat) : Nat := (kRow y).1
def kML (y : Nat) : Nat := (kRow y).2.1
def kNP (y : Nat) : Nat := (kRow y).2.2.1
def kFR (y : Nat) : Nat := (kRow y).2.2.2.1
def kLO (y : Nat) : Nat := (kRow y).2.2.2.2.1
def kCE (y : Nat) : Nat := (kRow y).2.2.2.2.2.1
def kSL (y : Nat) : Nat := (kRow y).2.2.2.2.2.2.1
def kST (y : Nat) : Nat := (kRow y).2.2.2.2.2.2.2
def kmi (y : Nat) : MethodName × ByteArray × Nat × Option FieldType := match wah (kH y) with
  | some (.code a b c d) => (a, b, c, d)
  | _ => (x, code, maxLocals, ret)
def knm (y : Nat) : MethodName := (kmi y).1
def kcd (y : Nat) : ByteArray := (kmi y).2.1
def kin (y pc : Nat) : Option (Instr × Nat) := pk (kins.getD y []) pc
def klink (y idx : Nat) : Option KL := pk (klk.getD y []) idx
def kdfl (ci : Nat) : List Value := kdf.getD ci []
def isRefT (o : Option FieldType) : Bool := match o with
  | some (.object _) => true
  | some (.array _) => true
  | _ => false
def isIntT (o : Option FieldType) : Bool := match o with
  | some .int => true
  | _ => false
def chkKF (own : String) (idx a b h1 tag : Nat) : Bool := decide (b < fldN a) && okW h1 (.fieldLink own idx (fldT a b).1 (fldT a b).2.1 (fldT a b).2.2.1) && (match tag with
  | 0 => decide ((fldT a b).2.2.2 = false) && isIntT (parseFieldDescriptor (fldT a b).2.2.1)
  | 1 => decide ((fldT a b).2.2.2 = true) && decide ((fldT a b).1 = own) && isIntT (parseFieldDescriptor (fldT a b).2.2.1)
  | 2 => decide ((fldT a b).2.2.2 = false) && isRefT (parseFieldDescriptor (fldT a b).2.2.1)
  | 3 => decide ((fldT a b).2.2.2 = true) && decide ((fldT a b).1 = own) && isRefT (parseFieldDescriptor (fldT a b).2.2.1)
  | _ => false)
def chkKC (nest : Bool) (own : String) (y idx a h1 h2 h3 : Nat) : Bool := match kmi a with
  | (nm, _, _, _) => (bif nest then okW h1 (.methodLinkNest own idx nm "MapDuty") else okW h1 (.methodLink own idx nm)) && okW h2 (.instanceMethod nm) && okW h3 (.initialized nm.cls) && decide (kFR a + 1 ≤ kFR y) && decide (8 + (kML a + 11) + kLO a ≤ kLO y) && decide (a < 11)
def chkKN (own : String) (idx a h1 h2 h3 : Nat) : Bool := match vwCl[a]? with
  | some q => okW h1 (.classLink own idx q.1) && okW h2 (.instantiable q.1 q.2.2) && okW h3 (.initialized q.1)
  | none => false
def chkKL (own : String) (y : Nat) (q : Nat × KL) : Bool := match q with
  | (idx, 0, _, _, h1, h2, h3) => okW h1 (.methodLink own idx Lib.objectInit) && okW h2 (.instanceMethod Lib.objectInit) && okW h3 (.code Lib.objectInit ⟨#[0xb1]⟩ 1 none)
  | (idx, 1, a, _, h1, h2, h3) => chkKC false own y idx a h1 h2 h3
  | (idx, 2, a, _, h1, h2, h3) => chkKC true own y idx a h1 h2 h3
  | (idx, 3, a, _, h1, h2, h3) => chkKN own idx a h1 h2 h3
  | (idx, 4, _, b, h1, h2, h3) => okW h1 (.methodLink own idx Lib.Math.max.name) && okW h2 (.static Lib.Math.max.name) && okW h3 (.code Lib.Math.max.name Lib.Math.max.code 2 (some .int)) && okW b (.initialized "java/lang/Math")
  | (idx, 5, _, b, h1, h2, h3) => okW h1 (.methodLink own idx Lib.Math.min.name) && okW h2 (.static Lib.Math.min.name) && okW h3 (.code Lib.Math.min.name Lib.Math.min.code 2 (some .int)) && okW b (.initialized "java/lang/Math")
  | (idx, 6, a, b, h1, tag, _) => chkKF own idx a b h1 tag
  | _ => false
def chkKY (y : Nat) : Bool := match kmi y with
  | (nm, cd, ml, _) => (kins.getD y []).all (chkD1 cd) && (klk.getD y []).all (chkKL nm.cls y) && Nat.beq ml (kML y) && decide (1 ≤ kFR y) && decide (21 ≤ kLO y + 1) && decide ((parseMethodDescriptor nm.desc).map (fun d => d.parameters.length) = some (kNP y)) && decide (nm.cls ≠ "java/lang/invoke/MethodHandle") && decide (nm.cls ≠ "java/lang/invoke/VarHandle")
def chkKZ (y : Nat) : Bool := match kmi y with
  | (nm, _, _, rt) => isCd (wah (kH y)) && decide (rt = none) && decide (nm.name = "<init>") && plainName nm.cls && decide (kin y (kST y) = some (.return_, 1)) && decide (clNm y = some nm.cls)
def noR (v : Value) : Bool := match v with
  | .ref _ => false
  | _ => true
def chkKD (ci : Nat) : Bool := decide ((kdfl ci).length = fldN ci) && (kdfl ci).all noR && (List.range (fldN ci)).all (fun j => decide ((parseFieldDescriptor (fldT ci j).2.2.1).map defaultValue = some (vp_V (kdfl ci) j)))
set_option maxRecDepth 20000 in
theorem kY_0 : (List.range' 0 12).all chkKY = true := by decide +kernel
set_option maxRecDepth 20000 in
theorem kZ_0 : (List.range' 0 11).all chkKZ = true := by decide +kernel
set_option maxRecDepth 20000 in
theorem kDf_0 : (List.range' 0 11).all chkKD = true := by decide +kernel
theorem kins_len : kins.length = 12 := by decide +kernel
theorem klk_len : klk.length = 12 := by decide +kernel
theorem vwCl_len : vwCl.length = 11 := rfl
theorem kY_ok {y : Nat} (h : y < 12) : chkKY y = true := rng_all _ _ kY_0 y (Nat.zero_le _) (by omega)
theorem kin_ok {y pc ln : Nat} {i : Instr} (h : kin y pc = some (i, ln)) : y < 12 ∧ decode (kcd y) pc = .ok (i, ln) ∧ (ilen i = ln ∨ isSw i = true) := by
  have hy := pkn_lt kins_len h
  have hm := pkn_mem h
  have hk := kY_ok hy
  unfold chkKY at hk
  simp only [Bool.and_eq_true] at hk
  have h2 := List.all_eq_true.mp hk.1.1.1.1.1.1.1 _ hm
  unfold chkD1 at h2
  simp only [Bool.and_eq_true, Bool.or_eq_true, decide_eq_true_eq] at h2
  exact ⟨hy, h2.1, h2.2.imp Nat.eq_of_beq_eq_true id⟩
theorem klink_ok {y idx : Nat} {q : KL} (h : klink y idx = some q) : y < 12 ∧ chkKL (knm y).cls y (idx, q) = true := by
  have hy := pkn_lt klk_len h
  have hm := pkn_mem h
  have hk := kY_ok hy
  unfold chkKY at hk
  simp only [Bool.and_eq_true] at hk
  exact ⟨hy, List.all_eq_true.mp hk.1.1.1.1.1.1.2 _ hm⟩
theorem kmet_ok {y : Nat} (h : y < 12) : (kmi y).2.2.1 = kML y ∧ 1 ≤ kFR y ∧ 20 ≤ kLO y ∧ (parseMethodDescriptor (knm y).desc).map (fun d => d.parameters.length) = some (kNP y) ∧ (knm y).cls ≠ "java/lang/invoke/MethodHandle" ∧ (knm y).cls ≠ "java/lang/invoke/VarHandle" := by
  have hk := kY_ok h
  unfold chkKY at hk
  simp only [Bool.and_eq_true, decide_eq_true_eq] at hk
  obtain ⟨⟨⟨⟨⟨⟨⟨-, -⟩, a1⟩, a2⟩, a3⟩, a4⟩, a5⟩, a6⟩ := hk
  exact ⟨Nat.eq_of_beq_eq_true a1, a2, by omega, a4, a5, a6⟩
theorem kcon_ok {y : Nat} (h : y < 11) : (kmi y).2.2.2 = none ∧ (knm y).name = "<init>" ∧ plainName (knm y).cls = true ∧ kin y (kST y) = some (.return_, 1) ∧ clNm y = some (knm y).cls ∧ Jvm.Cond.code (knm y) (kcd y) (kML y) none ∈ lw_tbl := by
  have hk := rng_all _ _ kZ_0 y (Nat.zero_le _) (by omega)
  have hm := kmet_ok (y := y) (by omega)
  unfold chkKZ at hk
  simp only [Bool.and_eq_true, decide_eq_true_eq] at hk
  obtain ⟨⟨⟨⟨⟨a1, a2⟩, a3⟩, a4⟩, a5⟩, a6⟩ := hk
  refine ⟨a2, a3, a4, a5, a6, ?_⟩
  rw [← hm.1, ← a2]
  unfold knm kcd kmi
  cases hw : wah (kH y) with
  | none => rw [hw] at a1; cases a1
  | some w =>
    rw [hw] at a1
    cases w <;> first | exact wah_mem hw | cases a1
theorem kdfl_ok {ci : Nat} (h : ci < 11) : (kdfl ci).length = fldN ci ∧ (∀ v ∈ kdfl ci, noR v = true) ∧ ∀ j, j < fldN ci → (parseFieldDescriptor (fldT ci j).2.2.1).map defaultValue = some (vp_V (kdfl ci) j) := by
  have hk := rng_all _ _ kDf_0 ci (Nat.zero_le _) (by omega)
  unfold chkKD at hk
  simp only [Bool.and_eq_true, decide_eq_true_eq] at hk
  refine ⟨hk.1.1, List.all_eq_true.mp hk.1.2, fun j hj => ?_⟩
  have h2 := List.all_eq_true.mp hk.2 j (List.mem_range.mpr hj)
  exact of_decide_eq_true h2
