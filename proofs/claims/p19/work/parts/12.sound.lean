/-! the pure machine is sound -/
def CallOK (y idx k y' h1 h2 h3 h4 : Nat) : Prop := chkC1 (mnm y).cls y idx k y' h1 h2 h3 h4 = true
theorem pcall_ok {y idx k y' : Nat} (h : pcall y idx = some (k, y')) : y < 195 ∧ ∃ h1 h2 h3 h4, CallOK y idx k y' h1 h2 h3 h4 := by
  unfold pcall at h
  cases hp : pk (calls.getD y []) idx with
  | none => rw [hp] at h; cases h
  | some q =>
    rw [hp] at h
    have e := Option.some.inj h
    have hy := pkn_lt calls_len hp
    have hk : (calls.getD y []).all (fun q => chkC1 (mnm y).cls y q.1 q.2.1 q.2.2.1 q.2.2.2.1 q.2.2.2.2.1 q.2.2.2.2.2.1 q.2.2.2.2.2.2) = true := chkC_ok y hy
    have h2 := List.all_eq_true.mp hk _ (pkn_mem hp)
    obtain ⟨k', y'', h1, h2', h3, h4⟩ := q
    have e1 : k' = k := congrArg Prod.fst e
    have e2 : y'' = y' := congrArg Prod.snd e
    subst e1; subst e2
    exact ⟨hy, h1, h2', h3, h4, h2⟩
theorem call_v {y idx y' : Nat} (h : pcall y idx = some (0, y')) : y' < 194 ∧ Jvm.Cond.methodLink (mnm y).cls idx (mnm y') ∈ lw_tbl ∧ Jvm.Cond.instanceMethod (mnm y') ∈ lw_tbl ∧ Jvm.Cond.selects (mnm y').cls (mnm y') (mnm y') ∈ lw_tbl ∧ Jvm.Cond.initialized (mnm y').cls ∈ lw_tbl ∧ clNm (mOC y') = some (mnm y').cls ∧ mFR y' + 1 ≤ mFR y ∧ 8 + (mML y' + 11) + mLO y' ≤ mLO y := by
  obtain ⟨hy, h1, h2, h3, h4, hk⟩ := pcall_ok h
  unfold CallOK chkC1 at hk
  simp only [Bool.and_eq_true, decide_eq_true_eq, nM_eq] at hk
  obtain ⟨⟨⟨⟨⟨⟨⟨a1, a2⟩, a3⟩, a4⟩, a5⟩, a6⟩, a7⟩, a8⟩ := hk
  exact ⟨of_decide_eq_true a8, okW_mem a1, okW_mem a2, okW_mem a3, okW_mem a4, a5, a6, a7⟩
theorem call_s {y idx y' : Nat} (h : pcall y idx = some (1, y')) : y' < 194 ∧ Jvm.Cond.methodLink (mnm y).cls idx (mnm y') ∈ lw_tbl ∧ Jvm.Cond.static (mnm y') ∈ lw_tbl ∧ Jvm.Cond.initialized (mnm y').cls ∈ lw_tbl ∧ mFR y' + 1 ≤ mFR y ∧ 8 + (mML y' + 11) + mLO y' ≤ mLO y := by
  obtain ⟨hy, h1, h2, h3, h4, hk⟩ := pcall_ok h
  unfold CallOK chkC1 at hk
  simp only [Bool.and_eq_true, decide_eq_true_eq, nM_eq] at hk
  obtain ⟨⟨⟨⟨⟨a1, a2⟩, a4⟩, a6⟩, a7⟩, a8⟩ := hk
  exact ⟨of_decide_eq_true a8, okW_mem a1, okW_mem a2, okW_mem a4, a6, a7⟩
theorem call_n {y idx y' : Nat} (h : pcall y idx = some (2, y')) : y' < 194 ∧ Jvm.Cond.methodLinkNest (mnm y).cls idx (mnm y') "MapDuty" ∈ lw_tbl ∧ Jvm.Cond.static (mnm y') ∈ lw_tbl ∧ Jvm.Cond.initialized (mnm y').cls ∈ lw_tbl ∧ mFR y' + 1 ≤ mFR y ∧ 8 + (mML y' + 11) + mLO y' ≤ mLO y := by
  obtain ⟨hy, h1, h2, h3, h4, hk⟩ := pcall_ok h
  unfold CallOK chkC1 at hk
  simp only [Bool.and_eq_true, decide_eq_true_eq, nM_eq] at hk
  obtain ⟨⟨⟨⟨⟨a1, a2⟩, a4⟩, a6⟩, a7⟩, a8⟩ := hk
  exact ⟨of_decide_eq_true a8, okW_mem a1, okW_mem a2, okW_mem a4, a6, a7⟩
theorem call_a {y idx y' : Nat} (h : pcall y idx = some (3, y')) : Jvm.Cond.methodLink (mnm y).cls idx arraycopyName ∈ lw_tbl ∧ Jvm.Cond.native arraycopyName ∈ lw_tbl ∧ Jvm.Cond.static arraycopyName ∈ lw_tbl ∧ Jvm.Cond.initialized "java/lang/System" ∈ lw_tbl ∧ 1 ≤ mFR y ∧ 26 ≤ mLO y := by
  obtain ⟨hy, h1, h2, h3, h4, hk⟩ := pcall_ok h
  unfold CallOK chkC1 at hk
  simp only [Bool.and_eq_true, decide_eq_true_eq] at hk
  obtain ⟨⟨⟨⟨⟨a1, a2⟩, a4⟩, a6⟩, a7⟩, a8⟩ := hk
  exact ⟨okW_mem a1, okW_mem a2, okW_mem a4, okW_mem a6, a7, a8⟩
theorem call_x {y idx y' : Nat} (h : pcall y idx = some (4, y')) : Jvm.Cond.methodLink (mnm y).cls idx Lib.Math.max.name ∈ lw_tbl ∧ Jvm.Cond.static Lib.Math.max.name ∈ lw_tbl ∧ Jvm.Cond.code Lib.Math.max.name Lib.Math.max.code 2 (some .int) ∈ lw_tbl ∧ Jvm.Cond.initialized "java/lang/Math" ∈ lw_tbl ∧ 1 ≤ mFR y ∧ 21 ≤ mLO y := by
  obtain ⟨hy, h1, h2, h3, h4, hk⟩ := pcall_ok h
  unfold CallOK chkC1 at hk
  simp only [Bool.and_eq_true, decide_eq_true_eq] at hk
  obtain ⟨⟨⟨⟨⟨a1, a2⟩, a4⟩, a6⟩, a7⟩, a8⟩ := hk
  exact ⟨okW_mem a1, okW_mem a2, okW_mem a4, okW_mem a6, a7, a8⟩
theorem call_m {y idx y' : Nat} (h : pcall y idx = some (5, y')) : Jvm.Cond.methodLink (mnm y).cls idx Lib.Math.min.name ∈ lw_tbl ∧ Jvm.Cond.static Lib.Math.min.name ∈ lw_tbl ∧ Jvm.Cond.code Lib.Math.min.name Lib.Math.min.code 2 (some .int) ∈ lw_tbl ∧ Jvm.Cond.initialized "java/lang/Math" ∈ lw_tbl ∧ 1 ≤ mFR y ∧ 21 ≤ mLO y := by
  obtain ⟨hy, h1, h2, h3, h4, hk⟩ := pcall_ok h
  unfold CallOK chkC1 at hk
  simp only [Bool.and_eq_true, decide_eq_true_eq] at hk
  obtain ⟨⟨⟨⟨⟨a1, a2⟩, a4⟩, a6⟩, a7⟩, a8⟩ := hk
  exact ⟨okW_mem a1, okW_mem a2, okW_mem a4, okW_mem a6, a7, a8⟩
def wsM (y : Nat) : List Jvm.Cond := .code (mnm y) (mcd y) (mML y) (rtOf (mRK y)) :: gw
def rmM (y : Nat) : Room := { frames := mFR y, cells := 0, slots := 0, locals := mLO y }
theorem gw_good : ∀ w ∈ gw, goodWord w = true := fun _ h => (List.mem_filter.mp h).2
theorem gw_in : ∀ w ∈ gw, w ∈ lw_tbl := fun _ h => (List.mem_filter.mp h).1
theorem goodIn_wsM {y : Nat} (h : y < 194) : GoodIn gw (wsM y) := by
  intro w hw
  have h1 : w ∈ gw := by
    rcases List.mem_cons.mp hw with e | e
    · rw [e]; exact gw_mem (code_in h) rfl
    · exact e
  exact ⟨h1, good_of_word (gw_good w h1)⟩
theorem goodIn_cons {big ws : List Jvm.Cond} {w : Jvm.Cond} (h : w ∈ big) (hg : goodWord w = true) (hs : GoodIn big ws) : GoodIn big (w :: ws) := by
  intro v hv
  rcases List.mem_cons.mp hv with e | e
  · rw [e]; exact ⟨h, good_of_word hg⟩
  · exact hs v e
def wB (dC : Nat → ClassId) (dI : Nat → Nat → Nat) (cI cZ : ClassId) (adr : Nat → Nat) (A : Nat → Prop) (σ : St) (t : State) : Prop := va_P (dC, dI) vwCl (wd cI cZ adr σ) t.heap ∧ va_K (dC, dI) vwCl (tyL cI cZ) t ∧ va_D A (wd cI cZ adr σ)
def pcM (dC : Nat → ClassId) (dI : Nat → Nat → Nat) (cI cZ : ClassId) (adr : Nat → Nat) (vs : List Value) (σ : St) (sz : Nat) : Array Value → State → Prop := va_Pc (vs.map (tr adr)) (fun U => U.heap.size = sz ∧ va_P (dC, dI) vwCl (wd cI cZ adr σ) U.heap ∧ va_K (dC, dI) vwCl (tyL cI cZ) U ∧ va_D (fun _ => True) (wd cI cZ adr σ) ∧ NW U)
/-- the return of a method's body -/
def Rt (dC : Nat → ClassId) (dI : Nat → Nat → Nat) (cI cZ : ClassId) (adr : Nat → Nat) (y : Nat) (Q : Option Value → St → Prop) (A : Nat → Prop) (s : State) (V : Heap → List Loc → Nat → Array Slot → List Value → Prop) : Prop :=
  ∀ (pc : Nat) (ls : Array Slot) (H : Heap) (locs : List Loc) (σ : St), va_P (dC, dI) vwCl (wd cI cZ adr σ) H → va_D A (wd cI cZ adr σ) → va_S A s.heap H locs →
    (∀ v : Int32, decode (mcd y) pc = .ok (.ireturn, 1) → rOK y v → Q (some (.int v)) σ → V H locs pc ls [.int v]) ∧ (decode (mcd y) pc = .ok (.return_, 1) → mRK y = 0 → Q none σ → V H locs pc ls [])
def Snd (n : Nat) : Prop := ∀ (l : Launch) (dC : Nat → ClassId) (dI : Nat → Nat → Nat) (cI cZ : ClassId) (adr : Nat → Nat) (X : Scr) (y pc : Nat) (lv : Lv) (st : List Value) (σ : St) (Q : Option Value → St → Prop), pw n X y pc lv st σ Q →
  ∀ (p : Program) (e : Env) (R : Room) (s : State) (m : MethodId) (args : Array Value) (below : List Frame) (meth : Method) (c : Code) (H : Heap) (locs : List Loc) (cells slots : Nat) (QQ : State → Prop) (ls : Array Slot) (A : Nat → Prop),
    Cx dC dI cI cZ adr X y p R s m args c A → cells ≤ R.cells → slots ≤ R.slots → va_P (dC, dI) vwCl (wd cI cZ adr σ) H → va_D A (wd cI cZ adr σ) → va_S A s.heap H locs → LR adr ls (mML y) lv →
    Rt dC dI cI cZ adr y Q A s (fun H locs pc ls st => W p l e R s m args below meth c H locs cells slots QQ (F0 m pc ls st)) →
    W p l e R s m args below meth c H locs cells slots QQ (F0 m pc ls (st.map (tr adr)))
theorem met_core {n : Nat} (h : Snd n) (l : Launch) (dC : Nat → ClassId) (dI : Nat → Nat → Nat) (cI cZ : ClassId) (adr : Nat → Nat) {y : Nat} (hy : y < 194) {vs : List Value} {σ : St} {Q : Option Value → St → Prop} (hl : (lva vs).length ≤ mML y) (hp : pw n none y 0 (ent y vs) [] σ Q) (sz : Nat) {Qc : Array Value → State → Outcome → State → Prop}
    (hi : ∀ (a : Array Value) (st t : State) (v : Int32) (σ' : St), rOK y v → Q (some (.int v)) σ' → wB dC dI cI cZ adr (va_A (wd cI cZ adr σ) sz) σ' t → va_F (va_A (wd cI cZ adr σ) sz) st t → Qc a st (.returned (some (.int v))) t)
    (hv : ∀ (a : Array Value) (st t : State) (σ' : St), mRK y = 0 → Q none σ' → wB dC dI cI cZ adr (va_A (wd cI cZ adr σ) sz) σ' t → va_F (va_A (wd cI cZ adr σ) sz) st t → Qc a st (.returned none) t) :
    Met l (mnm y) (wsM y) (rmM y) (pcM dC dI cI cZ adr vs σ sz) Qc 0 0 (va_A (wd cI cZ adr σ) sz) := by
  have hmo := meth_ok (y := y) (by omega)
  refine Met.ofW (cc := mcd y) (maxL := mML y) (ret := rtOf (mRK y)) hmo.2.2.1 rfl ?_
  intro p e s m args below meth c s₁ B hml hpc
  obtain ⟨rfl, hsz, hP, hK, hD0, hN⟩ := hpc
  have hts := atoms_spec (ws := wsM y) B.pre
  have hown : s.vm.findClass (mnm y).cls = some m.cls := findClass_of_methodNamed B.named
  have hlocks := B.notSynchronized
  have hret := B.returns
  subst hsz
  have hD := hD0.self (sz := s.heap.size)
  rw [lg_entry_eq]
  have hle := lv_entry (vs.map (tr adr)) (n := mML y) (by rw [lva_len]; exact hl)
  refine h l dC dI cI cZ adr none y 0 (ent y vs) [] σ Q hp p e _ s m _ below meth c s.heap [] 0 0 _ _ (va_A (wd cI cZ adr σ) s.heap.size) ⟨B.exec, B.bytes, hml, hown, fun w hw => hts w (List.mem_cons_of_mem _ hw), hN, Nat.le_refl _, Nat.le_refl _, hK, fun q hq => Or.inr hq, fun _ _ e => by cases e⟩ (Nat.le_refl 0) (Nat.le_refl 0) hP hD va_S.rf (LR.entry hl hle) ?_
  intro pc' ls' H' locs' σ' hP' hD' hS'
  have hb : ∀ t : State, t.heap = H' → s.WarmedH t.vm → wB dC dI cI cZ adr (va_A (wd cI cZ adr σ) s.heap.size) σ' t := fun t ht hW => ⟨by rw [ht]; exact hP', va_K.moved hW.alike hK, hD'⟩
  refine ⟨fun v hd hr hq => ?_, fun hd hr hq => ?_⟩
  · rcases hr with hr | ⟨hr, hv01⟩
    · exact W.iret B.exec B.bytes (by rw [hret, hr]; rfl) (fun t ht hW => hi _ s t v σ' (Or.inl hr) hq (hb t ht hW) (hS'.F ht)) (fun q hq => hS'.2.2 q hq) hd hlocks
    · refine W.zret (ty := .boolean) B.exec B.bytes (by rw [hret, hr]; rfl) ?_ (fun t ht hW => hi _ s t v σ' (Or.inr ⟨hr, hv01⟩) hq (hb t ht hW) (hS'.F ht)) (fun q hq => hS'.2.2 q hq) hd hlocks
      rcases hv01 with e | e <;> subst e <;> rfl
  · exact W.vret B.exec B.bytes (by rw [hret, hr]; rfl) (fun t ht hW => hv _ s t σ' hr hq (hb t ht hW) (hS'.F ht)) (fun q hq => hS'.2.2 q hq) hd hlocks
