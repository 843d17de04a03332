/-! a constructor's whole run, with the constructors that it calls -/
def pin (v : Value) : Value := match v with
  | .ref _ => .ref 1000
  | v => v
def parg : List Value → Nat
  | [] => 0
  | .ref k :: _ => k
  | _ :: t => parg t
def pOK (b pa : Nat) (v : Value) : Bool := match v with
  | .ref k => Nat.beq k pa && Nat.blt pa b
  | _ => true
def shV (b pa : Nat) (v : Value) : Value := match v with
  | .ref k => bif Nat.blt k 1000 then .ref (k + b) else .ref pa
  | v => v
def shE (b pa : Nat) (e : CE) : CE := match e with
  | .inl q => .inl q
  | .inr q => .inr (q.1, q.2.map (shV b pa))
def scV2 (n b pa : Nat) (v : Value) : Bool := match v with
  | .ref k => Nat.blt k n || (Nat.beq k 1000 && Nat.blt pa b)
  | _ => true
def scE2 (n b pa : Nat) (e : CE) : Bool := match e with
  | .inl _ => true
  | .inr q => q.2.all (scV2 n b pa)
def kent (y : Nat) (vs : List Value) : Lv := lva vs ++ List.replicate (kML y - (lva vs).length) none
def kcal (y : Nat) (i : Instr) : Option (Nat × Bool × Nat) := match i with
  | .invokespecial idx => match klink y idx with
    | some (1, y', _, _, _, _) => some (idx, false, y')
    | some (2, y', _, _, _, _) => some (idx, true, y')
    | _ => none
  | _ => none
def kgo : Nat → Nat → Nat → Nat → Lv → List Value → List CE → Nat → Nat → Option KS
  | 0, _, _, _, _, _, _, _, _ => none
  | f + 1, y, stop, pc, lv, st, cs, ce, sl => bif Nat.beq pc stop then some (pc, lv, st, cs, ce, sl) else match kin y pc with
    | none => none
    | some (i, _) => match kcal y i with
      | some (_, _, y') => match st.drop (kNP y') with
        | .ref b :: rest => match cs[b]? with
          | some (.inr (ci, fs)) =>
            if (ci = y' ∧ fs.all noR = true ∧ b + 1 = cs.length ∧ (st.take (kNP y')).length = kNP y' ∧ (rest.map fun v => v.category).sum ≤ 8) ∧ (lva (.ref 0 :: ((st.take (kNP y')).reverse).map pin)).length ≤ kML y' ∧ scA lv rest cs = true ∧ (ce + kCE y' ≤ kCE y ∧ sl + kSL y' ≤ kSL y) ∧ ((st.take (kNP y')).reverse).all (pOK b (parg (st.take (kNP y')).reverse)) = true then
              match kgo f y' (kST y') 0 (kent y' (.ref 0 :: ((st.take (kNP y')).reverse).map pin)) [] [.inr (ci, fs)] 0 0 with
              | some (_, _, [], cs', ce', sl') =>
                if (ce' ≤ kCE y' ∧ sl' ≤ kSL y') ∧ (b + cs'.length < 1000 ∧ 1 ≤ cs'.length) ∧ cs'.all (scE2 cs'.length b (parg (st.take (kNP y')).reverse)) = true then
                  kgo f y stop (pc + 3) lv rest (cs.take b ++ cs'.map (shE b (parg (st.take (kNP y')).reverse))) (ce + kCE y') (sl + kSL y')
                else none
              | _ => none
            else none
          | _ => none
        | _ => none
      | none => match kst y i pc lv st cs ce sl with
        | some q => kgo f y stop q.1 q.2.1 q.2.2.1 q.2.2.2.1 q.2.2.2.2.1 q.2.2.2.2.2
        | none => none
theorem LR.kentry {ad : Nat → Nat} {y : Nat} {vs : List Value} {ls : Array Slot} (hl : (lva vs).length ≤ kML y) (h : lv_has ls (kML y) (lv_args 0 (vs.map (tr ad)))) : LR ad ls (kML y) (kent y vs) := by
  refine ⟨h.1, h.2.1, by simp [kent]; omega, fun i v hi => ?_⟩
  unfold kent at hi
  rcases Nat.lt_or_ge i (lva vs).length with q | q
  · rw [List.getElem?_append_left q] at hi
    have h2 := h.2.2 _ (lva_args ad vs 0 i v hi)
    simpa using h2
  · rw [List.getElem?_append_right q, List.getElem?_replicate] at hi
    split at hi
    · cases hi
    · cases hi
def wsK (y : Nat) : List Jvm.Cond := .code (knm y) (kcd y) (kML y) none :: gw
def rmK (y : Nat) : Room := { frames := kFR y, cells := kCE y, slots := kSL y, locals := kLO y }
theorem goodIn_wsK {y : Nat} (h : y < 11) : GoodIn gw (wsK y) := by
  intro w hw
  have h1 : w ∈ gw := by
    rcases List.mem_cons.mp hw with e | e
    · rw [e]; exact gw_mem (kcon_ok h).2.2.2.2.2 rfl
    · exact e
  exact ⟨h1, good_of_word (gw_good w h1)⟩
def KB (dC : Nat → ClassId) (dI : Nat → Nat → Nat) (cI cZ : ClassId) (A : Nat → Prop) (cs : List CE) (ad : Nat → Nat) (t : State) : Prop := va_P (dC, dI) vwCl (cwd cI cZ ad cs) t.heap ∧ va_K (dC, dI) vwCl (tyL cI cZ) t ∧ va_D A (cwd cI cZ ad cs)
def pcK (dC : Nat → ClassId) (dI : Nat → Nat → Nat) (cI cZ : ClassId) (ad : Nat → Nat) (av : List Value) (cs : List CE) (sz : Nat) : Array Value → State → Prop := va_Pc av (fun U => U.heap.size = sz ∧ va_P (dC, dI) vwCl (cwd cI cZ ad cs) U.heap ∧ va_K (dC, dI) vwCl (tyL cI cZ) U ∧ va_D (fun _ => True) (cwd cI cZ ad cs) ∧ NW U)
theorem pcK_blind (dC : Nat → ClassId) (dI : Nat → Nat → Nat) (cI cZ : ClassId) (ad : Nat → Nat) (av : List Value) (cs : List CE) (sz : Nat) : FrameBlind (pcK dC dI cI cZ ad av cs sz) := by
  intro a U g mk q
  obtain ⟨q0, q1, qP, qK, qD, qN⟩ := q
  refine ⟨q0, q1, qP, va_K.moved (u := U) (U := U.calling g mk a) (Vm.Alike.refl U.vm) qK, qD, fun w hw hn => ?_⟩
  cases w with
  | methodLinkNest a1 a2 a3 a4 => exact va_Nw.same rfl rfl (qN _ hw hn)
  | _ => cases hn
def Ksd (f : Nat) : Prop := ∀ (l : Launch) (dC : Nat → ClassId) (dI : Nat → Nat → Nat) (cI cZ : ClassId) (y stop pc : Nat) (lv : Lv) (st : List Value) (cs : List CE) (ce sl : Nat) (r : KS), kgo f y stop pc lv st cs ce sl = some r →
  ∀ (p : Program) (e : Env) (R : Room) (s : State) (m : MethodId) (args : Array Value) (below : List Frame) (meth : Method) (c : Code) (H : Heap) (locs : List Loc) (QQ : State → Prop) (ls : Array Slot) (A : Nat → Prop) (ad : Nat → Nat),
    Kx dC dI cI cZ y p R s m args meth c A → va_P (dC, dI) vwCl (cwd cI cZ ad cs) H → va_D A (cwd cI cZ ad cs) → va_S A s.heap H locs → LR ad ls (kML y) lv →
    (∀ (ad' : Nat → Nat) (H' : Heap) (locs' : List Loc) (ls' : Array Slot), agr cs.length ad ad' → cs.length ≤ r.2.2.2.1.length → va_P (dC, dI) vwCl (cwd cI cZ ad' r.2.2.2.1) H' → va_D A (cwd cI cZ ad' r.2.2.2.1) → va_S A s.heap H' locs' → LR ad' ls' (kML y) r.2.1 → W p l e R s m args below meth c H' locs' r.2.2.2.2.1 r.2.2.2.2.2 QQ (F0 m stop ls' (r.2.2.1.map (tr ad')))) →
    W p l e R s m args below meth c H locs ce sl QQ (F0 m pc ls (st.map (tr ad)))
theorem met_k {f : Nat} (h : Ksd f) (l : Launch) (dC : Nat → ClassId) (dI : Nat → Nat → Nat) (cI cZ : ClassId) (ad : Nat → Nat) {y : Nat} (hy : y < 11) {vs av : List Value} (hav : av = vs.map (tr ad)) {cs cs' : List CE} (hcs : cs.length = 1) {pc' : Nat} {lv' : Lv} {ce' sl' : Nat} (hl : (lva vs).length ≤ kML y)
    (hp : kgo f y (kST y) 0 (kent y vs) [] cs 0 0 = some (pc', lv', [], cs', ce', sl')) (hce : ce' ≤ kCE y) (hsl : sl' ≤ kSL y) (sz : Nat) :
    Met l (knm y) (wsK y) (rmK y) (pcK dC dI cI cZ ad av cs sz) (va_Qv (fun ad' : Nat → Nat => agr 1 ad ad') (KB dC dI cI cZ (va_A (cwd cI cZ ad cs) sz) cs') (va_A (cwd cI cZ ad cs) sz)) (kCE y) (kSL y) (va_A (cwd cI cZ ad cs) sz) := by
  obtain ⟨k1, k2, k3, k4, k5, k6⟩ := kcon_ok hy
  refine Met.ofW (cc := kcd y) (maxL := kML y) (ret := none) k3 rfl ?_
  intro p e s m args below meth c s₁ B hml hpc
  obtain ⟨rfl, hsz, hP, hK, hD0, hN⟩ := hpc
  have hts := atoms_spec (ws := wsK y) B.pre
  have hown : s.vm.findClass (knm y).cls = some m.cls := findClass_of_methodNamed B.named
  have hlocks := B.notSynchronized
  have hret := B.returns
  have hnm : meth.name = "<init>" := by rw [(name_of_methodNamed B.named B.method).1]; exact k2
  subst hsz
  subst hav
  have hD := hD0.self (sz := s.heap.size)
  rw [lg_entry_eq]
  have hle := lv_entry (vs.map (tr ad)) (n := kML y) (by rw [lva_len]; exact hl)
  refine h l dC dI cI cZ y (kST y) 0 (kent y vs) [] cs 0 0 _ hp p e _ s m _ below meth c s.heap [] _ _ (va_A (cwd cI cZ ad cs) s.heap.size) ad ⟨B.exec, B.bytes, hml, hown, fun w hw => hts w (List.mem_cons_of_mem _ hw), hN, Nat.le_refl _, Nat.le_refl _, Nat.le_refl _, Nat.le_refl _, hK, fun q hq => Or.inr hq, fun _ => hnm⟩ hP hD va_S.rf (LR.kentry hl hle) ?_
  intro ad' H' locs' ls' hag hln hP' hD' hS' hL'
  rw [hcs] at hag
  refine W.widen (k := kCE y) (n := kSL y) hce hsl ?_
  exact W.vret B.exec B.bytes hret (fun t ht hW => ⟨⟨ad', rfl, hag, by rw [ht]; exact hP', va_K.moved hW.alike hK, hD'⟩, hS'.F ht⟩) (fun q hq => hS'.2.2 q hq) (kin_ok k4).2.1 hlocks
theorem va_nd_range (b : Nat) : va_nd (List.range b) = true := by
  have h : ∀ l : List Nat, l.Nodup → va_nd l = true := by
    intro l
    induction l with
    | nil => intro _; rfl
    | cons a t ih =>
      intro hn
      have h2 := List.nodup_cons.mp hn
      unfold va_nd
      rw [ih h2.2, Bool.and_true, decide_eq_true_eq]
      exact h2.1
  exact h _ List.nodup_range
theorem range_take {ws : va_W} {b : Nat} (h : b ≤ ws.length) : (List.range b).map (fun i => ws[i]?) = (ws.take b).map some := by
  refine List.ext_getElem? fun i => ?_
  rw [List.getElem?_map, List.getElem?_map, List.getElem?_take]
  by_cases hi : i < b
  · rw [List.getElem?_range hi, if_pos hi]
    show some ws[i]? = _
    rw [List.getElem?_eq_getElem (show i < ws.length by omega)]
    rfl
  · rw [if_neg hi, List.getElem?_eq_none (by rw [List.length_range]; omega)]
    rfl
theorem cwd_take {cI cZ : ClassId} {ad : Nat → Nat} {cs : List CE} (b : Nat) : cwd cI cZ ad (cs.take b) = (cwd cI cZ ad cs).take b := by
  refine List.ext_getElem? fun i => ?_
  unfold cwd
  rw [List.getElem?_mapIdx, List.getElem?_take, List.getElem?_take, List.getElem?_mapIdx]
  by_cases hi : i < b
  · rw [if_pos hi, if_pos hi]
  · rw [if_neg hi, if_neg hi]; rfl
theorem cwd_len {cI cZ : ClassId} {ad : Nat → Nat} {cs : List CE} : (cwd cI cZ ad cs).length = cs.length := by unfold cwd; rw [List.length_mapIdx]
def jad (b : Nat) (ad ad2 : Nat → Nat) : Nat → Nat := fun k => if k < b then ad k else if k < 1000 then ad2 (k - b) else ad k
theorem shV_ok {ad ad2 : Nat → Nat} {b pa n k : Nat} (hsv : scV2 n b pa (.ref k) = true) (hl : b + n < 1000) (hpa : ad2 1000 = ad pa) : tr (jad b ad ad2) (shV b pa (.ref k)) = Value.ref (ad2 k) := by
  simp only [scV2, Bool.or_eq_true, Bool.and_eq_true] at hsv
  rcases hsv with hk | ⟨hk, hp⟩
  · have hk : k < n := Nat.le_of_ble_eq_true hk
    have hb1 : Nat.blt k 1000 = true := Nat.ble_eq_true_of_le (by omega)
    unfold shV
    dsimp only
    rw [hb1, cond_true]
    show Value.ref (jad b ad ad2 (k + b)) = _
    unfold jad
    rw [if_neg (by omega), if_pos (by omega), show k + b - b = k by omega]
  · have hk : k = 1000 := Nat.eq_of_beq_eq_true hk
    have hp : pa < b := Nat.le_of_ble_eq_true hp
    subst hk
    show Value.ref (jad b ad ad2 pa) = _
    unfold jad
    rw [if_pos hp, hpa]
theorem cwd_join {cI cZ : ClassId} {ad ad2 : Nat → Nat} {cs cs' : List CE} {b pa : Nat} (hb : b + 1 = cs.length) (hsc : cs.all (scE cs.length) = true) (hl : b + cs'.length < 1000) (h1 : 1 ≤ cs'.length) (h0 : ad2 0 = ad b) (hpa : ad2 1000 = ad pa) (h2 : cs'.all (scE2 cs'.length b pa) = true) :
    agr cs.length ad (jad b ad ad2) ∧ cwd cI cZ (jad b ad ad2) (cs.take b ++ cs'.map (shE b pa)) = cwd cI cZ ad (cs.take b) ++ cwd cI cZ ad2 cs' := by
  have hag : agr cs.length ad (jad b ad ad2) := by
    intro k hk
    unfold jad
    rcases hk with hk | hk
    · by_cases hkb : k < b
      · rw [if_pos hkb]
      · rw [if_neg hkb, if_pos (by omega), show k - b = 0 by omega, h0, show k = b by omega]
    · rw [if_neg (by omega), if_neg (by omega)]
  refine ⟨hag, ?_⟩
  have e1 : cwd cI cZ (jad b ad ad2) (cs.take b ++ cs'.map (shE b pa)) = cwd cI cZ (jad b ad ad2) (cs.take b) ++ (cs'.map (shE b pa)).mapIdx (fun i e => (jad b ad ad2 (i + (cs.take b).length), cw cI cZ (jad b ad ad2) e)) := by
    unfold cwd
    rw [List.mapIdx_append]
  have hlt : (cs.take b).length = b := by rw [List.length_take]; omega
  rw [e1, cwd_ext (n := cs.length) hag (by rw [hlt]; omega) (List.all_eq_true.mpr fun e he => List.all_eq_true.mp hsc e (List.mem_of_mem_take he)), hlt]
  congr 1
  refine List.ext_getElem? fun i => ?_
  unfold cwd
  rw [List.getElem?_mapIdx, List.getElem?_mapIdx, List.getElem?_map]
  cases hi : cs'[i]? with
  | none => rfl
  | some e =>
    have hlt2 := (List.getElem?_eq_some_iff.mp hi).1
    show some (jad b ad ad2 (i + b), cw cI cZ (jad b ad ad2) (shE b pa e)) = some (ad2 i, cw cI cZ ad2 e)
    have e2 : jad b ad ad2 (i + b) = ad2 i := by unfold jad; rw [if_neg (by omega), if_pos (by omega), show i + b - b = i by omega]
    have e3 : cw cI cZ (jad b ad ad2) (shE b pa e) = cw cI cZ ad2 e := by
      have he := List.all_eq_true.mp h2 e (List.mem_of_getElem? hi)
      cases e with
      | inl q => rfl
      | inr q =>
        obtain ⟨ci, fs⟩ := q
        unfold cw shE
        dsimp only
        rw [List.map_map]
        congr 2
        refine List.map_congr_left fun v hv => ?_
        have hsv := List.all_eq_true.mp he v hv
        cases v with
        | ref k => exact shV_ok hsv hl hpa
        | _ => rfl
    rw [e2, e3]
def ad0 (ad : Nat → Nat) (b pa : Nat) : Nat → Nat := fun k => if k = 0 then ad b else if k = 1000 then ad pa else ad k
theorem pin_tr {ad : Nat → Nat} {b pa : Nat} {vs : List Value} (h : vs.all (pOK b pa) = true) : (vs.map pin).map (tr (ad0 ad b pa)) = vs.map (tr ad) := by
  rw [List.map_map]
  refine List.map_congr_left fun v hv => ?_
  have := List.all_eq_true.mp h v hv
  cases v with
  | ref k =>
    simp only [pOK, Bool.and_eq_true] at this
    show Value.ref (ad pa) = Value.ref (ad k)
    rw [Nat.eq_of_beq_eq_true this.1]
  | _ => rfl
