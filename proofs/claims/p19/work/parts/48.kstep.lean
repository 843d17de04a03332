/-! one instruction of a constructor -/
section KStep
variable {p : Program} {l : Launch} {e : Env} {R : Room} {s : State} {m : MethodId} {args : Array Value} {below : List Frame} {meth : Method} {c : Code} {H : Heap} {locs : List Loc} {QQ : State → Prop}
variable {dC : Nat → ClassId} {dI : Nat → Nat → Nat} {cI cZ : ClassId} {ad : Nat → Nat} {y : Nat} {A : Nat → Prop} {ls : Array Slot}
theorem scA_ok {lv : Lv} {st : List Value} {cs : List CE} (h : scA lv st cs = true) : cs.length < 1000 ∧ st.all (sc cs.length) = true ∧ lv.all (scO cs.length) = true ∧ cs.all (scE cs.length) = true := by
  unfold scA at h
  simp only [Bool.and_eq_true] at h
  exact ⟨Nat.le_of_ble_eq_true h.1.1.1, h.1.1.2, h.1.2, h.2⟩
theorem noR_scE {n ci : Nat} {fs : List Value} (h : ∀ v ∈ fs, noR v = true) : scE n (.inr (ci, fs)) = true := by
  show fs.all (sc n) = true
  refine List.all_eq_true.mpr fun v hv => ?_
  have := h v hv
  cases v <;> first | rfl | cases this
theorem noR_map {ad : Nat → Nat} {fs : List Value} (h : ∀ v ∈ fs, noR v = true) : fs.map (tr ad) = fs := by
  conv => rhs; rw [← List.map_id fs]
  refine List.map_congr_left fun v hv => ?_
  have := h v hv
  cases v <;> first | rfl | cases this
theorem tyL_i {cA : ClassId} (hK : va_K (dC, dI) vwCl (tyL cI cZ) s) (h : s.vm.findClass ("[" ++ FieldType.toString .int) = some cA) : cA = cI := Option.some.inj (h.symm.trans (hK.2 0 _ rfl).2)
theorem tyL_z {cA : ClassId} (hK : va_K (dC, dI) vwCl (tyL cI cZ) s) (h : s.vm.findClass ("[" ++ FieldType.toString .boolean) = some cA) : cA = cZ := Option.some.inj (h.symm.trans (hK.2 1 _ rfl).2)
set_option maxHeartbeats 4000000 in
theorem kst_sound {i : Instr} {pc ln : Nat} {lv : Lv} {st : List Value} {cs : List CE} {ce sl : Nat} {q : KS} (hi : kin y pc = some (i, ln)) (hs : kst y i pc lv st cs ce sl = some q)
    (cx : Kx dC dI cI cZ y p R s m args meth c A) (hP : va_P (dC, dI) vwCl (cwd cI cZ ad cs) H) (hD : va_D A (cwd cI cZ ad cs)) (hS : va_S A s.heap H locs) (hL : LR ad ls (kML y) lv)
    (kk : ∀ (ad' : Nat → Nat) (H' : Heap) (locs' : List Loc) (ls' : Array Slot), agr cs.length ad ad' → cs.length ≤ q.2.2.2.1.length → va_P (dC, dI) vwCl (cwd cI cZ ad' q.2.2.2.1) H' → va_D A (cwd cI cZ ad' q.2.2.2.1) → va_S A s.heap H' locs' → LR ad' ls' (kML y) q.2.1 → W p l e R s m args below meth c H' locs' q.2.2.2.2.1 q.2.2.2.2.2 QQ (F0 m q.1 ls' (q.2.2.1.map (tr ad')))) :
    W p l e R s m args below meth c H locs ce sl QQ (F0 m pc ls (st.map (tr ad))) := by
  obtain ⟨hy, hd, hln⟩ := kin_ok hi
  obtain ⟨hx, hb, hml, hown, hts, hnw, hfr, hlo, hRc, hRs, hK, hA, hin2⟩ := id cx
  have hmo := kmet_ok hy
  have hlen : lv.length = kML y := hL.2.2.1
  cases i with
  | aload_n k =>
    obtain rfl : 1 = ln := hln.resolve_right (by simp [isSw])
    simp only [kst] at hs
    split at hs
    · rename_i a h1
      cases hs
      exact lv_aload_n hx hb hd rfl (hL.2.2.2 _ _ h1) (kk ad H locs ls agr.rf (Nat.le_refl _) hP hD hS hL)
    · cases hs
  | iload_n k =>
    obtain rfl : 1 = ln := hln.resolve_right (by simp [isSw])
    simp only [kst] at hs
    split at hs
    · rename_i a h1
      cases hs
      exact lv_iload_n hx hb hd rfl (hL.2.2.2 _ _ h1) (kk ad H locs ls agr.rf (Nat.le_refl _) hP hD hS hL)
    · cases hs
  | iconst n =>
    obtain rfl : 1 = ln := hln.resolve_right (by simp [isSw])
    cases hs
    exact lv_iconst hx hb hd rfl (kk ad H locs ls agr.rf (Nat.le_refl _) hP hD hS hL)
  | bipush n =>
    obtain rfl : 2 = ln := hln.resolve_right (by simp [isSw])
    cases hs
    exact lv_bipush hx hb hd rfl (kk ad H locs ls agr.rf (Nat.le_refl _) hP hD hS hL)
  | sipush n =>
    obtain rfl : 3 = ln := hln.resolve_right (by simp [isSw])
    cases hs
    exact lv_sipush hx hb hd rfl (kk ad H locs ls agr.rf (Nat.le_refl _) hP hD hS hL)
  | imul =>
    obtain rfl : 1 = ln := hln.resolve_right (by simp [isSw])
    simp only [kst] at hs
    split at hs
    · cases hs
      exact lv_imul hx hb hd (kk ad H locs ls agr.rf (Nat.le_refl _) hP hD hS hL)
    · cases hs
  | dup =>
    obtain rfl : 1 = ln := hln.resolve_right (by simp [isSw])
    simp only [kst] at hs
    split at hs
    · cases hs
      exact lv_dup hx hb hd rfl (kk ad H locs ls agr.rf (Nat.le_refl _) hP hD hS hL)
    · cases hs
  | astore_n k =>
    obtain rfl : 1 = ln := hln.resolve_right (by simp [isSw])
    simp only [kst] at hs
    split at hs
    · rename_i a r
      split at hs
      · rename_i h2
        cases hs
        exact lv_astore_n hx hb hd rfl hL.has (by rw [← hlen]; exact h2) rfl (fun ls' h' => kk ad H locs ls' agr.rf (Nat.le_refl _) hP hD hS (LR.st1 (v := .ref a) hlen h'))
      · cases hs
    · cases hs
  | istore_n k =>
    obtain rfl : 1 = ln := hln.resolve_right (by simp [isSw])
    simp only [kst] at hs
    split at hs
    · rename_i a r
      split at hs
      · rename_i h2
        cases hs
        exact lv_istore_n hx hb hd rfl hL.has (by rw [← hlen]; exact h2) rfl (fun ls' h' => kk ad H locs ls' agr.rf (Nat.le_refl _) hP hD hS (LR.st1 (v := .int a) hlen h'))
      · cases hs
    · cases hs
  | new idx =>
    obtain rfl : 3 = ln := hln.resolve_right (by simp [isSw])
    simp only [kst] at hs
    split at hs
    · rename_i ci b h1 h2 h3 hk
      split at hs
      · rename_i hc
        obtain ⟨g1, g2, g3⟩ := hc
        cases hs
        obtain ⟨s1, s2, s3, s4⟩ := scA_ok g1
        obtain ⟨-, hw⟩ := klink_ok hk
        have hw : chkKN (knm y).cls idx ci h1 h2 h3 = true := hw
        unfold chkKN at hw
        split at hw
        · rename_i vq hv
          obtain ⟨C, T, N⟩ := vq
          simp only [Bool.and_eq_true] at hw
          obtain ⟨⟨w1, w2⟩, w3⟩ := hw
          have hci := vwCl_lt hv
          obtain ⟨d1, d2, d3⟩ := kdfl_ok hci
          rw [fldN_eq hv] at d1 d3
          obtain ⟨ty, hty, hnm⟩ := (cls_ok hv).2
          refine va_new (D := (dC, dI)) (ci := ci) (fs := kdfl ci) (C := C) (T := T) (N := N) hx hb hts (u_ws_good (cls_ok hv).1) ty hty hown (hts _ (gw_mem (okW_mem w1) rfl)) (hts _ (gw_mem (okW_mem w2) rfl)) (hts _ (gw_mem (okW_mem w3) rfl)) hK hP hD hS hA hv (fun j hj => ?_) (by omega) (by omega) hd (fun a H1 hP1 hD1 hS1 => ?_)
          · have h5 := d3 j hj
            rw [fldT_eq hv, hty j hj] at h5
            exact Option.some.inj h5
          · have hag := ext1_agr (ad := ad) (a := a) s1
            have he : scE cs.length (.inr (ci, kdfl ci)) = true := noR_scE d2
            have hpu := cwd_push (cI := cI) (cZ := cZ) (ad := ad) (a := a) s4 s1 he
            have hcw : cw cI cZ ad (.inr (ci, kdfl ci)) = .inr (ci, kdfl ci) := by unfold cw; dsimp only; rw [noR_map d2]
            rw [hcw] at hpu
            have kk2 := kk (ext1 ad cs.length a) H1 locs ls hag (by simp) (by rw [hpu]; exact hP1) (by rw [hpu]; exact hD1) hS1 (hL.agr hag s3)
            dsimp only at kk2
            rw [List.map_cons, sc_map hag s2, d1] at kk2
            have e1 : tr (ext1 ad cs.length a) (.ref cs.length) = .ref a := congrArg Value.ref ext1_self
            rw [e1] at kk2
            exact kk2
        · cases hw
      · cases hs
    · cases hs
  | newarray t =>
    obtain rfl : 2 = ln := hln.resolve_right (by simp [isSw])
    simp only [kst] at hs
    split at hs
    · rename_i z hz
      split at hs
      · rename_i n r
        split at hs
        · rename_i hc
          obtain ⟨g1, g2, g3, g4, g5⟩ := hc
          cases hs
          obtain ⟨s1, s2, s3, s4⟩ := scA_ok g1
          have fin : ∀ (a : Nat) (H1 : Heap), va_P (dC, dI) vwCl (cwd cI cZ ad cs ++ [(a, cw cI cZ ad (.inl (z, n.toNatClampNeg)))]) H1 → va_D A (cwd cI cZ ad cs ++ [(a, cw cI cZ ad (.inl (z, n.toNatClampNeg)))]) → va_S A s.heap H1 locs → W p l e R s m args below meth c H1 locs (ce + 1) (sl + n.toNatClampNeg) QQ (F0 m (pc + 2) ls (.ref a :: r.map (tr ad))) := by
            intro a H1 hP1 hD1 hS1
            have hag := ext1_agr (ad := ad) (a := a) s1
            have hpu := cwd_push (cI := cI) (cZ := cZ) (ad := ad) (a := a) (e := .inl (z, n.toNatClampNeg)) s4 s1 rfl
            have kk2 := kk (ext1 ad cs.length a) H1 locs ls hag (by simp) (by rw [hpu]; exact hP1) (by rw [hpu]; exact hD1) hS1 (hL.agr hag s3)
            dsimp only at kk2
            rw [List.map_cons, sc_map hag s2] at kk2
            have e1 : tr (ext1 ad cs.length a) (.ref cs.length) = .ref a := congrArg Value.ref ext1_self
            rw [e1] at kk2
            exact kk2
          cases t with
          | int =>
            cases hz
            refine va_newa (D := (dC, dI)) (atype := .int) (ty := .int) (a0 := (n.toNatClampNeg, .inl (fun _ => 0))) hx hb (hts _ (gw_mem arrI_in rfl)) rfl hK hP hD hS hA (fun cA => rfl) g2 rfl (by simp only [componentBytes]; omega) (by omega) (by omega) hd (fun a cA H1 hK1 hP1 hD1 hS1 => ?_)
            obtain rfl := tyL_i hK (hK1.2 2 _ rfl).2
            exact fin a H1 hP1 hD1 hS1
          | boolean =>
            cases hz
            refine va_newa (D := (dC, dI)) (atype := .boolean) (ty := .boolean) (a0 := (n.toNatClampNeg, .inl (fun _ => 0))) hx hb (hts _ (gw_mem arrZ_in rfl)) rfl hK hP hD hS hA (fun cA => rfl) g2 rfl (by simp only [componentBytes]; omega) (by omega) (by omega) hd (fun a cA H1 hK1 hP1 hD1 hS1 => ?_)
            obtain rfl := tyL_z hK (hK1.2 2 _ rfl).2
            exact fin a H1 hP1 hD1 hS1
          | _ => cases hz
        · cases hs
      · cases hs
    · cases hs
  | getfield idx =>
    obtain rfl : 3 = ln := hln.resolve_right (by simp [isSw])
    simp only [kst] at hs
    split at hs
    · rename_i ci k h1 tag h3 hk
      split at hs
      · rename_i a r
        split at hs
        · rename_i ci' fs hcs
          split at hs
          · rename_i hci
            subst hci
            split at hs
            · rename_i v hv
              cases hs
              obtain ⟨-, hw⟩ := klink_ok hk
              have hw : chkKF (knm y).cls idx ci k h1 tag = true := hw
              unfold chkKF at hw
              simp only [Bool.and_eq_true, decide_eq_true_eq] at hw
              obtain ⟨⟨w1, w2⟩, -⟩ := hw
              obtain ⟨C, T, N, hvw⟩ := fldN_some w1
              rw [fldN_eq hvw] at w1
              rw [fldT_eq hvw] at w2
              have he := cwd_get (cI := cI) (cZ := cZ) (ad := ad) hcs
              exact va_get hx hb hts (u_ws_good (cls_ok hvw).1) hown hK hP a he hvw k w1 (hts _ (gw_mem (okW_mem w2) rfl)) (fun _ h => h) (v := tr ad v) (by rw [List.getElem?_map, hv]; rfl) hd (kk ad H locs ls agr.rf (Nat.le_refl _) hP hD hS hL)
            · cases hs
          · cases hs
        · cases hs
      · cases hs
    · cases hs
  | putfield idx =>
    obtain rfl : 3 = ln := hln.resolve_right (by simp [isSw])
    simp only [kst] at hs
    split at hs
    · rename_i ci k h1 tag h3 hk
      split at hs
      · rename_i v a r
        split at hs
        · rename_i ci' fs hcs
          split at hs
          · rename_i hcc
            obtain ⟨hci, hkl, hy11, htag⟩ := hcc
            subst hci
            cases hs
            obtain ⟨-, hw⟩ := klink_ok hk
            have hw : chkKF (knm y).cls idx ci k h1 tag = true := hw
            unfold chkKF at hw
            simp only [Bool.and_eq_true, decide_eq_true_eq] at hw
            obtain ⟨⟨w1, w2⟩, w3⟩ := hw
            obtain ⟨C, T, N, hvw⟩ := fldN_some w1
            rw [fldN_eq hvw] at w1
            rw [fldT_eq hvw] at w2 w3
            have he := cwd_get (cI := cI) (cZ := cZ) (ad := ad) hcs
            obtain ⟨ty, hty, hnm⟩ := (cls_ok hvw).2
            have hlk := hts _ (gw_mem (okW_mem w2) rfl)
            have fin : ∀ (H1 : Heap) (locs1 : List Loc), va_P (dC, dI) vwCl ((cwd cI cZ ad cs).set a (ad a, .inr (ci, (fs.map (tr ad)).set k (tr ad v)))) H1 → va_D A ((cwd cI cZ ad cs).set a (ad a, .inr (ci, (fs.map (tr ad)).set k (tr ad v)))) → va_S A s.heap H1 locs1 → W p l e R s m args below meth c H1 locs1 ce sl QQ (F0 m (pc + 3) ls (r.map (tr ad))) := by
              intro H1 locs1 hP1 hD1 hS1
              rw [cwd_set hcs] at hP1 hD1
              exact kk ad H1 locs1 ls agr.rf (by simp) hP1 hD1 hS1 hL
            have hkl2 : k < (fs.map (tr ad)).length := by rw [List.length_map]; exact hkl
            match tag, v, htag, w3, fin with
            | 0, .int x, _, w3, fin =>
              simp only [Bool.and_eq_true, decide_eq_true_eq] at w3
              obtain ⟨t0, e1, e2, e3⟩ := isIntT_ok w3.2 x
              exact va_put hx hb hts (u_ws_good (cls_ok hvw).1) ty hty hnm hown hK hP hD hS a he hvw k w1 hlk (fun _ h => h) w3.1 (ty := t0) (v := .int x) e1 e2 e3 hkl2 hd fin
            | 1, .int x, _, w3, fin =>
              simp only [Bool.and_eq_true, decide_eq_true_eq] at w3
              obtain ⟨t0, e1, e2, e3⟩ := isIntT_ok w3.2 x
              exact va_putF hx hb hts (u_ws_good (cls_ok hvw).1) ty hty hnm hown hK hP hD hS a he hvw k w1 hlk (fun _ h => h) w3.1.1 (hin2 hy11) w3.1.2 (ty := t0) (v := .int x) e1 e2 e3 hkl2 hd fin
            | 2, .ref x, _, w3, fin =>
              simp only [Bool.and_eq_true, decide_eq_true_eq] at w3
              obtain ⟨t0, e1, e2, e3⟩ := isRefT_ok w3.2 (ad x)
              exact va_put hx hb hts (u_ws_good (cls_ok hvw).1) ty hty hnm hown hK hP hD hS a he hvw k w1 hlk (fun _ h => h) w3.1 (ty := t0) (v := .ref (ad x)) e1 e2 e3 hkl2 hd fin
            | 3, .ref x, _, w3, fin =>
              simp only [Bool.and_eq_true, decide_eq_true_eq] at w3
              obtain ⟨t0, e1, e2, e3⟩ := isRefT_ok w3.2 (ad x)
              exact va_putF hx hb hts (u_ws_good (cls_ok hvw).1) ty hty hnm hown hK hP hD hS a he hvw k w1 hlk (fun _ h => h) w3.1.1 (hin2 hy11) w3.1.2 (ty := t0) (v := .ref (ad x)) e1 e2 e3 hkl2 hd fin
          · cases hs
        · cases hs
      · cases hs
    · cases hs
  | invokespecial idx =>
    obtain rfl : 3 = ln := hln.resolve_right (by simp [isSw])
    simp only [kst] at hs
    split at hs
    · rename_i a0 b0 h1 h2 h3 hk
      split at hs
      · rename_i a r
        split at hs
        · rename_i hc
          cases hs
          obtain ⟨-, hw⟩ := klink_ok hk
          have hw : (okW h1 (.methodLink (knm y).cls idx Lib.objectInit) && okW h2 (.instanceMethod Lib.objectInit) && okW h3 (.code Lib.objectInit ⟨#[0xb1]⟩ 1 none)) = true := hw
          simp only [Bool.and_eq_true] at hw
          obtain ⟨⟨w1, w2⟩, w3⟩ := hw
          refine W.objInit hx hb hown (hts _ (gw_mem (okW_mem w1) rfl)) (hts _ (gw_mem (okW_mem w2) rfl)) (hts _ (gw_mem (okW_mem w3) rfl)) rfl (by rw [hml]; exact hL.1) rfl hd (by omega) ?_ (kk ad H locs ls agr.rf (Nat.le_refl _) hP hD hS hL)
          have := lv_room (m := m) (pc := pc) (ls := ls) (rest := []) (st := r.map (tr ad)) (by rw [tr_sum]; exact hc)
          rw [tr_sum]
          show 2 * 0 + _ + 12 ≤ _
          omega
        · cases hs
      · cases hs
    · cases hs
  | invokestatic idx =>
    obtain rfl : 3 = ln := hln.resolve_right (by simp [isSw])
    simp only [kst] at hs
    split at hs
    · rename_i a0 b0 h1 h2 h3 hk
      split at hs
      · rename_i y1 x1 r
        split at hs
        · rename_i hc
          obtain ⟨g1, g2, g3, g4⟩ := hc
          cases hs
          obtain ⟨-, hw⟩ := klink_ok hk
          have hw : (okW h1 (.methodLink (knm y).cls idx Lib.Math.max.name) && okW h2 (.static Lib.Math.max.name) && okW h3 (.code Lib.Math.max.name Lib.Math.max.code 2 (some .int)) && okW b0 (.initialized "java/lang/Math")) = true := hw
          simp only [Bool.and_eq_true] at hw
          obtain ⟨⟨⟨w1, w2⟩, w3⟩, w4⟩ := hw
          exact va_mmax (own := (knm y).cls) (index := idx) hx hb (by rw [hml, hL.1]) hown (hts _ (gw_mem (okW_mem w1) rfl)) (hts _ (gw_mem (okW_mem w2) rfl)) (hts _ (gw_mem (okW_mem w4) rfl)) (hts _ (gw_mem (okW_mem w3) rfl)) (by omega) (by rw [tr_sum]; omega) (by omega) (by omega) hd (kk ad H locs ls agr.rf (Nat.le_refl _) hP hD hS hL)
        · cases hs
      · cases hs
    · rename_i a0 b0 h1 h2 h3 hk
      split at hs
      · rename_i y1 x1 r
        split at hs
        · rename_i hc
          obtain ⟨g1, g2, g3, g4⟩ := hc
          cases hs
          obtain ⟨-, hw⟩ := klink_ok hk
          have hw : (okW h1 (.methodLink (knm y).cls idx Lib.Math.min.name) && okW h2 (.static Lib.Math.min.name) && okW h3 (.code Lib.Math.min.name Lib.Math.min.code 2 (some .int)) && okW b0 (.initialized "java/lang/Math")) = true := hw
          simp only [Bool.and_eq_true] at hw
          obtain ⟨⟨⟨w1, w2⟩, w3⟩, w4⟩ := hw
          exact va_mmin (own := (knm y).cls) (index := idx) hx hb (by rw [hml, hL.1]) hown (hts _ (gw_mem (okW_mem w1) rfl)) (hts _ (gw_mem (okW_mem w2) rfl)) (hts _ (gw_mem (okW_mem w4) rfl)) (hts _ (gw_mem (okW_mem w3) rfl)) (by omega) (by rw [tr_sum]; omega) (by omega) (by omega) hd (kk ad H locs ls agr.rf (Nat.le_refl _) hP hD hS hL)
        · cases hs
      · cases hs
    · cases hs
  | _ => cases hs
end KStep
