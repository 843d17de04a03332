theorem met_i {n : Nat} (h : Snd n) (l : Launch) (dC : Nat → ClassId) (dI : Nat → Nat → Nat) (cI cZ : ClassId) (adr : Nat → Nat) {y : Nat} (hy : y < 194) (hk : mRK y ≠ 0) {vs : List Value} {σ : St} {Q : Option Value → St → Prop} (hl : (lva vs).length ≤ mML y) (hp : pw n none y 0 (ent y vs) [] σ Q) (sz : Nat) :
    Met l (mnm y) (wsM y) (rmM y) (pcM dC dI cI cZ adr vs σ sz) (va_Qi (fun (v : Int32) (σ' : St) => Q (some (.int v)) σ') (wB dC dI cI cZ adr (va_A (wd cI cZ adr σ) sz)) (va_A (wd cI cZ adr σ) sz)) 0 0 (va_A (wd cI cZ adr σ) sz) :=
  met_core h l dC dI cI cZ adr hy hl hp sz (fun _ _ _ v σ' _ hq hb hf => ⟨⟨v, σ', rfl, hq, hb⟩, hf⟩) (fun _ _ _ _ h0 _ _ _ => absurd h0 hk)
theorem met_v {n : Nat} (h : Snd n) (l : Launch) (dC : Nat → ClassId) (dI : Nat → Nat → Nat) (cI cZ : ClassId) (adr : Nat → Nat) {y : Nat} (hy : y < 194) (hk : mRK y = 0) {vs : List Value} {σ : St} {Q : Option Value → St → Prop} (hl : (lva vs).length ≤ mML y) (hp : pw n none y 0 (ent y vs) [] σ Q) (sz : Nat) :
    Met l (mnm y) (wsM y) (rmM y) (pcM dC dI cI cZ adr vs σ sz) (va_Qv (fun (σ' : St) => Q none σ') (wB dC dI cI cZ adr (va_A (wd cI cZ adr σ) sz)) (va_A (wd cI cZ adr σ) sz)) 0 0 (va_A (wd cI cZ adr σ) sz) :=
  met_core h l dC dI cI cZ adr hy hl hp sz (fun _ _ _ v σ' hr _ _ _ => by rcases hr with e | e <;> simp [hk] at e) (fun _ _ _ σ' _ hq hb hf => ⟨⟨σ', rfl, hq, hb⟩, hf⟩)
theorem pcM_blind (dC : Nat → ClassId) (dI : Nat → Nat → Nat) (cI cZ : ClassId) (adr : Nat → Nat) (vs : List Value) (σ : St) (sz : Nat) : FrameBlind (pcM dC dI cI cZ adr vs σ sz) := by
  intro a U g mk q
  obtain ⟨q0, q1, qP, qK, qD, qN⟩ := q
  refine ⟨q0, q1, qP, va_K.moved (u := U) (U := U.calling g mk a) (Vm.Alike.refl U.vm) qK, qD, fun w hw hn => ?_⟩
  cases w with
  | methodLinkNest a1 a2 a3 a4 => exact va_Nw.same rfl rfl (qN _ hw hn)
  | _ => cases hn
theorem NW.warm {s U : State} (hW : s.WarmedH U.vm) (h : NW s) : NW U := by
  intro w hw hn
  cases w with
  | methodLinkNest a1 a2 a3 a4 => exact va_Nw.warmM hW (h _ hw hn)
  | _ => cases hn
/-- a call that returns, by its run: what was proved of the callee goes on behind it -/
theorem call_go {n : Nat} {l : Launch} {dC : Nat → ClassId} {dI : Nat → Nat → Nat} {cI cZ : ClassId} {adr : Nat → Nat} (hn : Snd n) {y' : Nat} (hy' : y' < 194) {vs : List Value} {σ : St} {Q' : Option Value → St → Prop} (hl : (lva vs).length ≤ mML y') (hp : pw n none y' 0 (ent y' vs) [] σ Q')
    {p : Program} {e : Env} {R : Room} {s : State} {m : MethodId} {args : Array Value} {below : List Frame} {meth : Method} {c : Code} {H : Heap} {locs : List Loc} {cells slots : Nat} {QQ : State → Prop} {A : Nat → Prop} {pc : Nat} {ls : Array Slot} {st0 rest : List Value} {av : Array Value}
    (hD : va_D A (wd cI cZ adr σ)) (hS : va_S A s.heap H locs) (hA : ∀ q, s.heap.size ≤ q → A q)
    (hrun : ∀ Qc : Array Value → State → Outcome → State → Prop, Met l (mnm y') (wsM y') (rmM y') (pcM dC dI cI cZ adr vs σ H.size) Qc 0 0 (va_A (wd cI cZ adr σ) H.size) → va_Run p l e R s m args below meth c H locs cells slots 0 0 (F0 m pc ls st0) rest (Qc av) (va_A (wd cI cZ adr σ) H.size))
    (kk : ∀ (r : Option Value) (σ' : St) (H1 : Heap) (locs1 : List Loc), Q' r σ' → va_P (dC, dI) vwCl (wd cI cZ adr σ') H1 → va_D A (wd cI cZ adr σ') → va_S A s.heap H1 locs1 → (∀ v, r = some v → ∃ x, v = .int x) → W p l e R s m args below meth c H1 locs1 cells slots QQ (F0 m (pc + 3) ls (r.toList ++ rest))) :
    W p l e R s m args below meth c H locs cells slots QQ (F0 m pc ls st0) := by
  have hF : ∀ q, va_A (wd cI cZ adr σ) H.size q → A q := by
    intro q h
    rcases h with ⟨k, e, h⟩ | h
    · exact hD.2 k (q, e) h
    · exact hA q (Nat.le_trans hS.1 h)
  by_cases hk : mRK y' = 0
  · refine va_callv (hrun _ (met_v hn l dC dI cI cZ adr hy' hk hl hp H.size)) hS (fun q _ h => hF q h) hF (fun u t H1 locs1 ht hvm hw hB hz hk1 hS1 => ?_)
    obtain ⟨hP1, -, hD1⟩ := hB
    rw [ht] at hP1
    exact kk none u H1 locs1 hw hP1 (hD1.weaken (fun _ _ _ h => hF _ h)) hS1 (fun v e => by cases e)
  · refine va_calli (hrun _ (met_i hn l dC dI cI cZ adr hy' hk hl hp H.size)) hS (fun q _ h => hF q h) hF (fun r u t H1 locs1 ht hvm hw hB hz hk1 hS1 => ?_)
    obtain ⟨hP1, -, hD1⟩ := hB
    rw [ht] at hP1
    exact kk (some (.int r)) u H1 locs1 hw hP1 (hD1.weaken (fun _ _ _ h => hF _ h)) hS1 (fun v e => ⟨r, (Option.some.inj e).symm⟩)
theorem toList_map (adr : Nat → Nat) (r : Option Value) (h : ∀ v, r = some v → ∃ x, v = .int x) (rest : List Value) : (r.toList ++ rest).map (tr adr) = r.toList ++ rest.map (tr adr) := by
  cases r with
  | none => rfl
  | some v =>
    obtain ⟨x, e⟩ := h v rfl
    subst e
    rfl
theorem objF_some {b ci : Nat} (h : (objF b ci).isSome = true) : ∃ fl, lay[b]? = some (.inr (ci, fl)) := by
  cases ho : objF b ci with
  | none => rw [ho] at h; cases h
  | some fl => exact ⟨fl, objF_ok ho⟩
theorem clNm_ok {ci : Nat} {C : String} (h : clNm ci = some C) : ∃ q : vw_C, vwCl[ci]? = some q ∧ q.1 = C := by
  unfold clNm at h
  cases hv : vwCl[ci]? with
  | none => rw [hv] at h; cases h
  | some q => rw [hv] at h; exact ⟨q, rfl, Option.some.inj h⟩
theorem st_split (st : List Value) (k : Nat) {t : List Value} (h : st.drop k = t) : st = st.take k ++ t := by rw [← h, List.take_append_drop]
set_option maxHeartbeats 4000000 in
theorem snd_all : ∀ n, Snd n := by
  intro n
  induction n with
  | zero => intro l dC dI cI cZ adr X y pc lv st σ Q h; exact absurd h (by simp [pw])
  | succ n ih =>
    intro l dC dI cI cZ adr X y pc lv st σ Q h p e R s m args below meth c H locs cells slots QQ ls A cx hce hsl hP hD hS hL hR
    unfold pw at h
    split at h
    · exact h.elim
    · rename_i i ln hi
      obtain ⟨hy, -, hd, hln⟩ := ins_ok hi
      obtain ⟨hx, hb, hml, hown, hts, hnw, hfr, hlo, hK, hA, hX⟩ := id cx
      have stay : ∀ (q : Rs), stp X (mOC y) i pc lv st σ = some q → pw n X y q.1 q.2.1 q.2.2.1 q.2.2.2 Q → W p l e R s m args below meth c H locs cells slots QQ (F0 m pc ls (st.map (tr adr))) := by
        intro q hq hw
        exact stp_sound hi hq cx hP hD hS hL (fun H' locs' ls' a1 a2 a3 a4 => ih l dC dI cI cZ adr X y q.1 q.2.1 q.2.2.1 q.2.2.2 Q hw p e R s m args below meth c H' locs' cells slots QQ ls' A cx hce hsl a1 a2 a3 a4 hR)
      split at h
      · -- ireturn
        split at h
        · rename_i r
          obtain rfl : 1 = ln := hln.resolve_right (by simp [isSw])
          exact (hR pc ls H locs σ hP hD hS).1 r hd h.1 h.2
        · exact h.elim
      · -- return
        obtain ⟨rfl, h1, h2⟩ := h
        obtain rfl : 1 = ln := hln.resolve_right (by simp [isSw])
        exact (hR pc ls H locs σ hP hD hS).2 hd h1 h2
      · -- invokevirtual
        rename_i idx
        obtain rfl : 3 = ln := hln.resolve_right (by simp [isSw])
        split at h
        · rename_i y' hc
          obtain ⟨hy', w1, w2, w3, w4, hcn, hf1, hf2⟩ := call_v hc
          have hmo := meth_ok (y := y') (by omega)
          split at h
          · rename_i b rest hdr
            obtain ⟨g1, g2, g3, g4, g5⟩ := h
            obtain ⟨fl, hfl⟩ := objF_some g1
            obtain ⟨vq, hvq, hvn⟩ := clNm_ok hcn
            have he := wd_get (cI := cI) (cZ := cZ) (adr := adr) (σ := σ) hfl
            rw [wc_obj] at he
            have hst : st.map (tr adr) = ((st.take (mNP y')).reverse.map (tr adr)).reverse ++ .ref (adr b) :: rest.map (tr adr) := by
              conv => lhs; rw [st_split st (mNP y') hdr]
              simp [tr]
            rw [hst]
            refine call_go ih hy' g4 g5 hD hS hA (fun Qc hM => va_runV (As := (st.take (mNP y')).reverse.map (tr adr)) (rest := rest.map (tr adr)) (Ts := gw) (n := mNP y') ⟨hx, hb, hml, hown, hts⟩ hM (cwV (mNP y') hts (goodIn_cons (gw_mem w1 rfl) rfl (goodIn_cons (gw_mem w2 rfl) rfl (goodIn_cons (gw_mem w3 rfl) rfl (goodIn_cons (gw_mem w4 rfl) rfl (goodIn_wsM hy'))))) rfl rfl rfl ⟨rfl, hmo.2.2.2.2.1, hmo.2.2.2.2.2.1, hmo.2.2.2.2.2.2⟩ ⟨Nat.le_trans hf1 hfr, Nat.le_trans hf2 hlo⟩) ⟨pcM_blind _ _ _ _ _ _ _ _, ?_, fun U hU hW => ⟨rfl, by rw [hU], by rw [hU]; exact hP, va_K.moved hW.alike hK, hD.weaken (fun _ _ _ _ => trivial), NW.warm hW hnw⟩⟩ rfl (by simpa using g2) hL.1 rfl (lv_room (by rw [tr_sum]; exact g3)) hd ⟨hce, hsl⟩) (fun r σ' H1 locs1 a1 a2 a3 a4 a5 => ?_)
            · obtain ⟨cell, z1, z2, z3⟩ := va_recv hK hP hvq he
              exact ⟨cell, z1, z2, by rw [← hvn]; exact z3⟩
            · rw [← toList_map adr r a5]
              exact ih l dC dI cI cZ adr X y (pc + 3) lv (r.toList ++ rest) σ' Q a1 p e R s m args below meth c H1 locs1 cells slots QQ ls A cx hce hsl a2 a3 a4 hL hR
          · exact h.elim
        · exact h.elim
      · -- invokestatic
        rename_i idx
        obtain rfl : 3 = ln := hln.resolve_right (by simp [isSw])
        split at h
        · -- arraycopy
          rename_i y' hc
          obtain ⟨w1, w2, w3, w4, hf1, hf2⟩ := call_a hc
          split at h
          · rename_i q hq
            unfold acp at hq
            split at hq
            · rename_i nn dp b sp a r
              obtain ⟨na, h1, hq⟩ := Option.bind_eq_some_iff.mp hq
              obtain ⟨nb, h2, hq⟩ := Option.bind_eq_some_iff.mp hq
              obtain ⟨⟨⟨c1, c2, c3, c4, c5⟩, c6⟩, hq⟩ := if_ok hq
              cases hq
              have ea := wd_get (cI := cI) (cZ := cZ) (adr := adr) (σ := σ) (arrN_ok h1)
              have eb := wd_get (cI := cI) (cZ := cZ) (adr := adr) (σ := σ) (arrN_ok h2)
              rw [wc_arr] at ea eb
              have hsz := hL.1
              refine va_copyi (own := (mnm y).cls) (index := idx) hx hb (by rw [hml, hsz]) hown (hts _ (gw_mem w1 rfl)) (hts _ (gw_mem w2 rfl)) (hts _ (gw_mem w3 rfl)) (hts _ (gw_mem w4 rfl)) hK hP hD hS a b 0 0 ea eb rfl rfl rfl c1 c2 c3 c4 c5 (fun i _ => rfl) (Nat.le_trans hf1 hfr) ?_ hd (fun H1 locs1 hP1 hD1 hS1 => ?_)
              · rw [tr_sum]
                have e7 : nativeFrameWords "java/lang/System" "arraycopy" 5 = 7 := by decide
                rw [e7]
                omega
              · rw [← wc_arr (cI := cI) (cZ := cZ) (adr := adr) (z := false), wd_set _ (arrN_ok h2)] at hP1 hD1
                exact ih l dC dI cI cZ adr X y _ _ _ _ Q h p e R s m args below meth c H1 locs1 cells slots QQ ls A cx hce hsl hP1 hD1 hS1 hL hR
            · cases hq
          · exact h.elim
        · -- max
          rename_i y' hc
          obtain ⟨w1, w2, w3, w4, hf1, hf2⟩ := call_x hc
          split at h
          · rename_i q hq
            obtain ⟨xx, zz, r, rfl, h1⟩ := p2_ok hq
            obtain ⟨h2, h3⟩ := if_ok h1
            cases h3
            exact va_mmax (own := (mnm y).cls) (index := idx) hx hb (by rw [hml, hL.1]) hown (hts _ (gw_mem w1 rfl)) (hts _ (gw_mem w2 rfl)) (hts _ (gw_mem w4 rfl)) (hts _ (gw_mem w3 rfl)) (Nat.le_trans hf1 hfr) (by rw [tr_sum]; omega) hce hsl hd (ih l dC dI cI cZ adr X y _ _ _ _ Q h p e R s m args below meth c H locs cells slots QQ ls A cx hce hsl hP hD hS hL hR)
          · exact h.elim
        · -- min
          rename_i y' hc
          obtain ⟨w1, w2, w3, w4, hf1, hf2⟩ := call_m hc
          split at h
          · rename_i q hq
            obtain ⟨xx, zz, r, rfl, h1⟩ := p2_ok hq
            obtain ⟨h2, h3⟩ := if_ok h1
            cases h3
            exact va_mmin (own := (mnm y).cls) (index := idx) hx hb (by rw [hml, hL.1]) hown (hts _ (gw_mem w1 rfl)) (hts _ (gw_mem w2 rfl)) (hts _ (gw_mem w4 rfl)) (hts _ (gw_mem w3 rfl)) (Nat.le_trans hf1 hfr) (by rw [tr_sum]; omega) hce hsl hd (ih l dC dI cI cZ adr X y _ _ _ _ Q h p e R s m args below meth c H locs cells slots QQ ls A cx hce hsl hP hD hS hL hR)
          · exact h.elim
        · -- static
          rename_i y' hc
          obtain ⟨hy', w1, w2, w4, hf1, hf2⟩ := call_s hc
          have hmo := meth_ok (y := y') (by omega)
          obtain ⟨g2, g3, g4, g5⟩ := h
          have hst : st.map (tr adr) = ((st.take (mNP y')).reverse.map (tr adr)).reverse ++ (st.drop (mNP y')).map (tr adr) := by
            conv => lhs; rw [st_split st (mNP y') rfl]
            simp
          rw [hst]
          refine call_go ih hy' g4 g5 hD hS hA (fun Qc hM => va_runS (As := (st.take (mNP y')).reverse.map (tr adr)) (rest := (st.drop (mNP y')).map (tr adr)) (Ts := gw) (n := mNP y') ⟨hx, hb, hml, hown, hts⟩ hM (va_cwS (mNP y') hts (goodIn_cons (gw_mem w1 rfl) rfl (goodIn_cons (gw_mem w2 rfl) rfl (goodIn_cons (gw_mem w4 rfl) rfl (goodIn_wsM hy')))) rfl rfl rfl ⟨hmo.2.2.2.2.1, hmo.2.2.2.2.2.1, hmo.2.2.2.2.2.2⟩ ⟨Nat.le_trans hf1 hfr, Nat.le_trans hf2 hlo⟩) ⟨pcM_blind _ _ _ _ _ _ _ _, fun U hU hW => ⟨rfl, by rw [hU], by rw [hU]; exact hP, va_K.moved hW.alike hK, hD.weaken (fun _ _ _ _ => trivial), NW.warm hW hnw⟩⟩ rfl (by simpa using g2) hL.1 rfl (lv_room (by rw [tr_sum]; exact g3)) hd ⟨hce, hsl⟩) (fun r σ' H1 locs1 a1 a2 a3 a4 a5 => ?_)
          rw [← toList_map adr r a5]
          exact ih l dC dI cI cZ adr X y (pc + 3) lv (r.toList ++ st.drop (mNP y')) σ' Q a1 p e R s m args below meth c H1 locs1 cells slots QQ ls A cx hce hsl a2 a3 a4 hL hR
        · -- static, of a nest mate
          rename_i y' hc
          obtain ⟨hy', w1, w2, w4, hf1, hf2⟩ := call_n hc
          have hmo := meth_ok (y := y') (by omega)
          obtain ⟨g2, g3, g4, g5⟩ := h
          have hst : st.map (tr adr) = ((st.take (mNP y')).reverse.map (tr adr)).reverse ++ (st.drop (mNP y')).map (tr adr) := by
            conv => lhs; rw [st_split st (mNP y') rfl]
            simp
          rw [hst]
          refine call_go ih hy' g4 g5 hD hS hA (fun Qc hM => va_runSN (As := (st.take (mNP y')).reverse.map (tr adr)) (rest := (st.drop (mNP y')).map (tr adr)) (Ts := gw) (n := mNP y') ⟨hx, hb, hml, hown, hts⟩ hM ⟨va_cnB (mNP y') hts (goodIn_wsM hy') rfl rfl rfl (hnw _ w1 rfl) (hts _ (gw_mem w4 rfl)) ⟨hmo.2.2.2.2.1, hmo.2.2.2.2.2.1, hmo.2.2.2.2.2.2⟩ ⟨Nat.le_trans hf1 hfr, Nat.le_trans hf2 hlo⟩, hts _ (gw_mem w2 rfl), trivial⟩ ⟨pcM_blind _ _ _ _ _ _ _ _, fun U hU hW => ⟨rfl, by rw [hU], by rw [hU]; exact hP, va_K.moved hW.alike hK, hD.weaken (fun _ _ _ _ => trivial), NW.warm hW hnw⟩⟩ rfl (by simpa using g2) hL.1 rfl (lv_room (by rw [tr_sum]; exact g3)) hd ⟨hce, hsl⟩) (fun r σ' H1 locs1 a1 a2 a3 a4 a5 => ?_)
          rw [← toList_map adr r a5]
          exact ih l dC dI cI cZ adr X y (pc + 3) lv (r.toList ++ st.drop (mNP y')) σ' Q a1 p e R s m args below meth c H1 locs1 cells slots QQ ls A cx hce hsl a2 a3 a4 hL hR
        · exact h.elim
      · split at h
        · rename_i q hq
          exact stay q hq h
        · exact h.elim
