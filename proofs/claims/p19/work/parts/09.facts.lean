theorem nM_eq : nM = 195 := rfl
theorem chkM_ok (y : Nat) (h : y < 195) : chkM y = true := rng_all _ _ kM_0 y (Nat.zero_le _) (by rw [nM_eq]; omega)
theorem chkP_ok (y : Nat) (h : y < 195) : chkP y = true := rng_all _ _ kP_0 y (Nat.zero_le _) (by rw [nM_eq]; omega)
theorem pkn_mem {α : Type} {l : List (Nat × α)} {j : Nat} {v : α} (h : pk l j = some v) : (j, v) ∈ l := by
  induction l with
  | nil => cases h
  | cons q t ih =>
    unfold pk at h
    cases hb : Nat.beq q.1 j with
    | true =>
      rw [hb] at h
      have e1 := Nat.eq_of_beq_eq_true hb
      have e2 : q.2 = v := Option.some.inj h
      have e3 : q = (j, v) := Prod.ext e1 e2
      rw [e3]; exact List.mem_cons_self
    | false =>
      rw [hb] at h
      exact List.mem_cons_of_mem _ (ih h)
theorem pins_len : pins.length = 195 := by decide +kernel
theorem calls_len : calls.length = 195 := by decide +kernel
theorem flds_len : flds.length = 14 := by decide +kernel
theorem csts_len : csts.length = 14 := by decide +kernel
theorem cstl_len : cstl.length = 14 := by decide +kernel
theorem pkn_lt {α : Type} {L : List (List (Nat × α))} {y j n : Nat} {v : α} (hn : L.length = n) (h : pk (L.getD y []) j = some v) : y < n := by
  rcases Nat.lt_or_ge y n with q | q
  · exact q
  · rw [List.getD_eq_getElem?_getD, List.getElem?_eq_none (by omega)] at h
    cases h
theorem ins_ok {y pc ln : Nat} {i : Instr} (h : ins y pc = some (i, ln)) : y < 195 ∧ (pc, i, ln) ∈ pins.getD y [] ∧ decode (mcd y) pc = .ok (i, ln) ∧ (ilen i = ln ∨ isSw i = true) := by
  have hy := pkn_lt pins_len h
  have hm := pkn_mem h
  have h2 : chkD1 (mcd y) (pc, i, ln) = true := by
    rcases Nat.lt_or_ge y 194 with q | q
    · have hk : (pins.getD y []).all (chkD1 (mcd y)) = true := chkD_ok y q
      exact List.all_eq_true.mp hk _ hm
    · have e : y = 194 := by omega
      rw [e] at hm ⊢
      exact chkL_ok _ hm
  unfold chkD1 at h2
  simp only [Bool.and_eq_true, Bool.or_eq_true, decide_eq_true_eq] at h2
  exact ⟨hy, hm, h2.1, h2.2.imp Nat.eq_of_beq_eq_true id⟩
theorem meth_ok {y : Nat} (h : y < 195) : (mi y).2.2.1 = mML y ∧ mrt y = rtOf (mRK y) ∧ plainName (mnm y).cls = true ∧ onm.getD (mOC y) "" = (mnm y).cls ∧ (mnm y).cls ≠ "java/lang/invoke/MethodHandle" ∧ (mnm y).cls ≠ "java/lang/invoke/VarHandle" ∧ (parseMethodDescriptor (mnm y).desc).map (fun d => d.parameters.length) = some (mNP y) := by
  have hk := chkM_ok y h
  unfold chkM at hk
  simp only [Bool.and_eq_true, decide_eq_true_eq] at hk
  obtain ⟨⟨⟨⟨⟨⟨⟨a1, a2⟩, a3⟩, a4⟩, -⟩, a6⟩, a7⟩, a8⟩ := hk
  exact ⟨Nat.eq_of_beq_eq_true a1, a2, a3, a4, a6, a7, a8⟩
theorem code_in {y : Nat} (h : y < 194) : Jvm.Cond.code (mnm y) (mcd y) (mML y) (rtOf (mRK y)) ∈ lw_tbl := by
  have hm := meth_ok (y := y) (by omega)
  have hk := chkM_ok y (by omega)
  unfold chkM at hk
  simp only [Bool.and_eq_true, Bool.or_eq_true, decide_eq_true_eq] at hk
  obtain ⟨⟨⟨⟨⟨⟨⟨a1, a2⟩, a3⟩, a4⟩, a5⟩, a6⟩, a7⟩, a8⟩ := hk
  have h5 : isCd (wah (mh.getD y 100000)) = true := by
    rcases a5 with q | q
    · exact q
    · have e := Nat.eq_of_beq_eq_true q
      rw [nM_eq] at e
      omega
  rw [← hm.1, ← hm.2.1]
  unfold mcd mnm mrt mi
  cases hw : (wah (mh.getD y 100000)) with
  | none => rw [hw] at h5; cases h5
  | some w =>
    rw [hw] at h5
    cases w <;> first | exact wah_mem hw | cases h5
theorem cstl_ok {oc idx : Nat} {v : Int64} (h : lres oc idx = some v) : Jvm.Cond.constantLong (onm.getD oc "") idx v ∈ lw_tbl := by
  unfold lres at h
  cases hp : pk (cstl.getD oc []) idx with
  | none => rw [hp] at h; cases h
  | some q =>
    rw [hp] at h
    have e : q.1 = v := Option.some.inj h
    have hy := pkn_lt cstl_len hp
    have hk := rng_all _ _ kK_0 oc (by omega) (by omega)
    unfold chkK at hk
    rw [Bool.and_eq_true] at hk
    rw [← e]
    exact okW_mem (List.all_eq_true.mp hk.2 _ (pkn_mem hp))
theorem csts_ok {oc idx : Nat} {v : Int32} (h : cres oc idx = some v) : Jvm.Cond.constant (onm.getD oc "") idx v ∈ lw_tbl := by
  unfold cres at h
  cases hp : pk (csts.getD oc []) idx with
  | none => rw [hp] at h; cases h
  | some q =>
    rw [hp] at h
    have e : q.1 = v := Option.some.inj h
    have hy := pkn_lt csts_len hp
    have hk := rng_all _ _ kK_0 oc (by omega) (by omega)
    unfold chkK at hk
    rw [Bool.and_eq_true] at hk
    rw [← e]
    exact okW_mem (List.all_eq_true.mp hk.1 _ (pkn_mem hp))
theorem flds_ok {oc idx ci k : Nat} (h : fres oc idx = some (ci, k)) : ∃ (C : String) (T : u_T) (N : Nat), vwCl[ci]? = some (C, T, N) ∧ k < N ∧ Jvm.Cond.fieldLink (onm.getD oc "") idx (T k).1 (T k).2.1 (T k).2.2.1 ∈ lw_tbl := by
  unfold fres at h
  cases hp : pk (flds.getD oc []) idx with
  | none => rw [hp] at h; cases h
  | some q =>
    rw [hp] at h
    have e := Option.some.inj h
    have hy := pkn_lt flds_len hp
    have hk := List.all_eq_true.mp (rng_all _ _ kF_0 oc (by omega) (by omega)) _ (pkn_mem hp)
    obtain ⟨q1, q2, q3⟩ := q
    cases e
    simp only [Bool.and_eq_true, decide_eq_true_eq] at hk
    unfold fldN fldT at hk
    cases hv : vwCl[q1]? with
    | none => rw [hv] at hk; exact absurd hk.1 (Nat.not_lt_zero _)
    | some w =>
      obtain ⟨C, T, N⟩ := w
      rw [hv] at hk
      exact ⟨C, T, N, rfl, hk.1, okW_mem hk.2⟩
theorem put_ok {y pc idx ln ci k : Nat} (h : ins y pc = some (.putfield idx, ln)) (hf : fres (mOC y) idx = some (ci, k)) : (fldT ci k).2.2.2 = false ∧ (fldT ci k).2.2.1 = "I" := by
  obtain ⟨hy, hm, -, -⟩ := ins_ok h
  have h2 := List.all_eq_true.mp (chkP_ok y hy) _ hm
  simp only [hf] at h2
  simpa using h2
theorem cls_ok {ci : Nat} {C : String} {T : u_T} {N : Nat} (h : vwCl[ci]? = some (C, T, N)) : (∀ w ∈ u_ws C T N, w ∈ lw_tbl) ∧ ∃ ty : Nat → FieldType, (∀ k, k < N → parseFieldDescriptor (T k).2.2.1 = some (ty k)) ∧ (∀ a, a < N → ∀ b, b < N → a ≠ b → (T a).2.1 ≠ (T b).2.1) := by
  match ci, h with
  | 0, h => cases h; exact ⟨inX0, _, tyX0_ok, nmX0⟩
  | 1, h => cases h; exact ⟨inX1, _, tyX1_ok, nmX1⟩
  | 2, h => cases h; exact ⟨inX2, _, tyX2_ok, nmX2⟩
  | 3, h => cases h; exact ⟨inX3, _, tyX3_ok, nmX3⟩
  | 4, h => cases h; exact ⟨inX4, _, tyX4_ok, nmX4⟩
  | 5, h => cases h; exact ⟨inX5, _, tyX5_ok, nmX5⟩
  | 6, h => cases h; exact ⟨inX6, _, tyX6_ok, nmX6⟩
  | 7, h => cases h; exact ⟨inX7, _, tyX7_ok, nmX7⟩
  | 8, h => cases h; exact ⟨inX8, _, tyX8_ok, nmX8⟩
  | 9, h => cases h; exact ⟨inX9, _, tyX9_ok, nmX9⟩
  | 10, h => cases h; exact ⟨inX10, _, tyX10_ok, nmX10⟩
  | k + 11, h => simp [vwCl] at h
