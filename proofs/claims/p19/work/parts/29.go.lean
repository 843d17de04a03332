set_option maxHeartbeats 4000000 in
theorem go_sound {ct : List Con} {con : Con} {cuts : List Cut} {ea : List (Option Nat)} {es : Es} {sm : Option (List (Nat × Bool))} {scr : Option Nat} {X : Scr} {vs : List Value} {σ0 : St} {M0 : List Int} {Q : Option Value → St → Prop} (hct : ∀ c ∈ ct, Sat c)
    (hpost : ∀ (r : Option Value) (σ' : St), Inv σ' → FrM (cMd con) (cAm con) σ0 σ' → rkS (cY con) r → (∃ a ∈ cAl con, altS vs σ0 σ' r a) → Q r σ')
    (hcut : ∀ c ∈ cuts, ∀ (lvc : Lv) (σ' : St), Inv σ' → FrM (cMd con) (cAm con) σ0 σ' → cutS vs σ0 c lvc σ' → (∀ m, sm = some m → LTm M0 (mval vs σ0 σ' lvc c.2.2.2.2.2)) → PW X (cY con) c.1 lvc [] σ' Q) :
    ∀ (n : Nat) (K : Kn) (y pc : Nat) (lv : ALv) (st : List AV) (fr : List Fr) (first : Bool), go ct con cuts ea es sm scr n K y pc lv st fr first = true → Goal con ea es sm scr X vs σ0 M0 Q K y pc lv st fr := by
  intro n
  induction n with
  | zero => intro K y pc lv st fr first h; cases h
  | succ n ih =>
    intro K y pc lv st fr first h ν σ lvc stc frc H
    obtain ⟨hv, hl, hr, hfr, hy, hI, hF, hE⟩ := id H
    unfold go at h
    split at h
    · -- a cut
      rename_i c cs hcs
      rw [Bool.and_eq_true] at h
      obtain ⟨h1, h2⟩ := h
      cases hb : (fr.isEmpty && !first) with
      | false => rw [hb, cond_false] at hcs; cases hcs
      | true =>
        rw [hb, cond_true] at hcs
        rw [Bool.and_eq_true] at hb
        have efr : fr = [] := List.isEmpty_iff.mp hb.1
        have est : st = [] := List.isEmpty_iff.mp h1
        subst efr
        subst est
        have estc := hr.nil
        subst estc
        match frc, hfr with
        | [], _ =>
          obtain ⟨d, d1, d2⟩ := List.any_eq_true.mp h2
          rw [← hcs] at d1
          obtain ⟨d3, d4⟩ := List.mem_filter.mp d1
          have epc := Nat.eq_of_beq_eq_true d4
          obtain ⟨e1, e2⟩ := entl_ok d2 hv hI.1 hE hl
          have := hcut d d3 lvc σ hI hF e1 e2
          rw [epc, ← (show y = cY con from hy)] at this
          exact this
    · split at h
      · -- a split
        rename_i q hq
        rw [Bool.and_eq_true] at h
        rcases splt_ok hq hv with ⟨s1, s2⟩ | ⟨s1, s2⟩
        · exact ih _ _ _ _ _ _ _ h.1 ν σ lvc stc frc ⟨s1, by rw [s2]; exact hl, by rw [s2]; exact hr, by rw [s2]; exact hfr, hy, hI, hF, by rw [s2]; exact hE⟩
        · exact ih _ _ _ _ _ _ _ h.2 ν σ lvc stc frc ⟨s1, by rw [s2]; exact hl, by rw [s2]; exact hr, by rw [s2]; exact hfr, hy, hI, hF, by rw [s2]; exact hE⟩
      · split at h
        · cases h
        · rename_i i ln hi
          split at h
          · -- ireturn
            split at h
            · rename_i av
              rw [Bool.and_eq_true, Bool.and_eq_true] at h
              obtain ⟨⟨h1, h2⟩, h3⟩ := h
              obtain ⟨t, s⟩ := av
              have et := Nat.eq_of_beq_eq_true h1
              dsimp only at et
              subst et
              obtain ⟨v, u, rfl, hv1, hr1⟩ := hr.cons
              have eu := hr1.nil
              subst eu
              obtain ⟨hs, x, rfl, ex⟩ := hv1.i
              have hrok : rOK y x := by
                unfold rokB at h2
                rw [Bool.or_eq_true, Bool.and_eq_true] at h2
                rcases h2 with h2 | ⟨h2, h4⟩
                · exact Or.inl (Nat.eq_of_beq_eq_true h2)
                · split at h4
                  · rename_i p hp
                    have b1 := kiv_ok hv hp
                    have b2 := sub_ok h4
                    dsimp only at b1
                    refine Or.inr ⟨Nat.eq_of_beq_eq_true h2, ?_⟩
                    have z0 : (0 : Int32).toInt = 0 := rfl
                    have z1 : (1 : Int32).toInt = 1 := rfl
                    rw [← Int32.toInt_inj, ← Int32.toInt_inj, z0, z1]
                    omega
                  · cases h4
              refine PW.iret hi hrok ?_
              match fr, frc, hfr, h3, hy with
              | [], [], _, h3, hy =>
                obtain ⟨a, a1, a2⟩ := List.any_eq_true.mp h3
                have ey : y = cY con := hy
                refine hpost _ _ hI hF ⟨fun e0 => ?_, fun _ => ⟨x, rfl⟩⟩ ⟨a, a1, altOK_ok (ret := some s) a2 hv hI.1 hE.1 hE.2.1 (fun s' hs' => by cases hs'; exact ⟨hs, congrArg some ex⟩) (fun e => by cases e)⟩
                rw [ey] at hrok
                rcases hrok with e | ⟨e, -⟩ <;> rw [e0] at e <;> cases e
              | f :: fr', g :: frc', hfr, h3, hy =>
                obtain ⟨f1, f2, f3, f4, f5⟩ := hfr
                have := ih _ _ _ _ _ _ _ h3 ν σ g.2.2.1 (.int x :: g.2.2.2) frc' ⟨hv, f3, ⟨hv1, f4⟩, f5, hy, hI, hF, hE⟩
                rw [f1, f2] at this
                exact this
            · cases h
          · -- return
            rw [Bool.and_eq_true, Bool.and_eq_true] at h
            obtain ⟨⟨h1, h2⟩, h3⟩ := h
            have est : st = [] := List.isEmpty_iff.mp h1
            subst est
            have estc := hr.nil
            subst estc
            have hk := Nat.eq_of_beq_eq_true h2
            refine PW.vret hi hk ?_
            match fr, frc, hfr, h3, hy with
            | [], [], _, h3, hy =>
              obtain ⟨a, a1, a2⟩ := List.any_eq_true.mp h3
              have ey : y = cY con := hy
              refine hpost _ _ hI hF ⟨fun _ => rfl, fun e0 => ?_⟩ ⟨a, a1, altOK_ok (ret := none) a2 hv hI.1 hE.1 hE.2.1 ReR.no (fun _ => rfl)⟩
              rw [ey] at hk
              exact absurd hk e0
            | f :: fr', g :: frc', hfr, h3, hy =>
              obtain ⟨f1, f2, f3, f4, f5⟩ := hfr
              have := ih _ _ _ _ _ _ _ h3 ν σ g.2.2.1 g.2.2.2 frc' ⟨hv, f3, f4, f5, hy, hI, hF, hE⟩
              rw [f1, f2] at this
              exact this
          · -- goto
            rename_i off
            split at h
            · rename_i t ht
              exact PW.step (q := (t, lvc, stc, σ)) hi rfl (by simp only [stp, ht]; rfl) (ih _ _ _ _ _ _ _ h ν σ lvc stc frc H)
            · cases h
          · -- if
            rename_i c off
            split at h
            · rename_i av r t ht
              rw [Bool.and_eq_true, Bool.and_eq_true] at h
              obtain ⟨⟨h1, h2⟩, h3⟩ := h
              obtain ⟨tg, s⟩ := av
              have et := Nat.eq_of_beq_eq_true h1
              dsimp only at et
              subst et
              obtain ⟨v, u, rfl, hv1, hr1⟩ := hr.cons
              obtain ⟨hs, x, rfl, ex⟩ := hv1.i
              obtain ⟨ν1, x1, x2, x3, x4, x5, x6⟩ := tst_ok hv hs c
              have hc0 : cnd c x 0 = true ↔ relC c (ν s) 0 := by rw [cnd_rel, ex]; exact Iff.rfl
              refine PW.step (q := (if cnd c x 0 = true then t else pc + 3, lvc, u, σ)) hi rfl (by simp only [stp, p1, ht]; rfl) ?_
              dsimp only
              by_cases hc : cnd c x 0 = true
              · rw [if_pos hc]
                obtain ⟨K1, w1, w2, w3, w4⟩ := rcmp_ok x3 x4 x5 (x6.mp (hc0.mp hc))
                dsimp only at h2
                rw [w1] at h2
                exact ih _ _ _ _ _ _ _ h2 ν1 σ lvc u frc ⟨w2, by rw [w3]; exact hl.mono x1 x2, by rw [w3]; exact hr1.mono x1 x2, by rw [w3]; exact hfr.mono x1 x2, hy, hI, hF, by rw [w3]; exact hE.mono x1 x2⟩
              · rw [if_neg hc]
                have hnr : relC (neg c) (ν1 (tst K s).2.1) (ν1 (tst K s).2.2) := relC_neg (fun z => hc (hc0.mpr (x6.mpr z)))
                obtain ⟨K1, w1, w2, w3, w4⟩ := rcmp_ok x3 x4 x5 hnr
                dsimp only at h3
                rw [w1] at h3
                exact ih _ _ _ _ _ _ _ h3 ν1 σ lvc u frc ⟨w2, by rw [w3]; exact hl.mono x1 x2, by rw [w3]; exact hr1.mono x1 x2, by rw [w3]; exact hfr.mono x1 x2, hy, hI, hF, by rw [w3]; exact hE.mono x1 x2⟩
            · cases h
          · -- if_icmp
            rename_i c off
            split at h
            · rename_i b a r t ht
              rw [Bool.and_eq_true, Bool.and_eq_true, Bool.and_eq_true] at h
              obtain ⟨⟨⟨h0, h1⟩, h2⟩, h3⟩ := h
              obtain ⟨ta, sa⟩ := a
              obtain ⟨tb, sb⟩ := b
              have et := Nat.eq_of_beq_eq_true h0
              have et2 := Nat.eq_of_beq_eq_true h1
              dsimp only at et et2
              subst et
              subst et2
              obtain ⟨v, u, rfl, hv1, hr1⟩ := hr.cons
              obtain ⟨v', u', rfl, hv2, hr2⟩ := hr1.cons
              obtain ⟨hsb, z, rfl, ez⟩ := hv1.i
              obtain ⟨hsa, x, rfl, ex⟩ := hv2.i
              have hc0 : cnd c x z = true ↔ relC c (ν sa) (ν sb) := by rw [cnd_rel, ex, ez]
              refine PW.step (q := (if cnd c x z = true then t else pc + 3, lvc, u', σ)) hi rfl (by simp only [stp, p2, ht]; rfl) ?_
              dsimp only
              by_cases hc : cnd c x z = true
              · rw [if_pos hc]
                obtain ⟨K1, w1, w2, w3, w4⟩ := rcmp_ok hv hsa hsb (hc0.mp hc)
                dsimp only at h2
                rw [w1] at h2
                exact ih _ _ _ _ _ _ _ h2 ν σ lvc u' frc ⟨w2, by rw [w3]; exact hl, by rw [w3]; exact hr2, by rw [w3]; exact hfr, hy, hI, hF, by rw [w3]; exact hE⟩
              · rw [if_neg hc]
                have hnr : relC (neg c) (ν sa) (ν sb) := relC_neg (fun z => hc (hc0.mpr z))
                obtain ⟨K1, w1, w2, w3, w4⟩ := rcmp_ok hv hsa hsb hnr
                dsimp only at h3
                rw [w1] at h3
                exact ih _ _ _ _ _ _ _ h3 ν σ lvc u' frc ⟨w2, by rw [w3]; exact hl, by rw [w3]; exact hr2, by rw [w3]; exact hfr, hy, hI, hF, by rw [w3]; exact hE⟩
            · cases h
          · -- tableswitch
            rename_i d lo hi' offs
            split at h
            · rename_i av r td htd
              rw [Bool.and_eq_true] at h
              obtain ⟨h1, h2⟩ := h
              obtain ⟨tg, s⟩ := av
              have et := Nat.eq_of_beq_eq_true h1
              dsimp only at et
              subst et
              obtain ⟨v, u, rfl, hv1, hr1⟩ := hr.cons
              obtain ⟨hs, x, rfl, ex⟩ := hv1.i
              dsimp only at h2
              split at h2
              · rename_i p hp
                have b1 := kiv_ok hv hp
                rw [Bool.and_eq_true, Bool.and_eq_true] at h2
                obtain ⟨⟨h3, h4⟩, h5⟩ := h2
                have stay : ∀ (K' : Kn), vOK X ν K' σ → kN K' = kN K → ∀ t, go ct con cuts ea es sm scr n K' y t lv r fr false = true → PW (Xof X frc) y t lvc u σ (QF X Q frc) := by
                  intro K' w2 w3 t hg
                  exact ih _ _ _ _ _ _ _ hg ν σ lvc u frc ⟨w2, by rw [w3]; exact hl, by rw [w3]; exact hr1, by rw [w3]; exact hfr, hy, hI, hF, by rw [w3]; exact hE⟩
                by_cases hc : x.toInt < lo ∨ hi' < x.toInt
                · refine PW.step (q := (td, lvc, u, σ)) hi rfl (by simp only [stp, p1]; rw [if_pos hc, htd]; rfl) ?_
                  rw [Bool.or_eq_true, decide_eq_true_eq] at h4 h5
                  rcases hc with hc | hc
                  · rcases h4 with h4 | h4
                    · omega
                    · exact stay _ (hv.setE hs (by omega) (by omega)) rfl td h4
                  · rcases h5 with h5 | h5
                    · omega
                    · exact stay _ (hv.setE hs (by omega) (by omega)) rfl td h5
                · have hj := List.all_eq_true.mp h3 (x.toInt - lo).toNat (List.mem_range.mpr (by omega))
                  rw [Bool.or_eq_true, Bool.or_eq_true, decide_eq_true_eq, decide_eq_true_eq] at hj
                  rcases hj with (hj | hj) | hj
                  · omega
                  · omega
                  · split at hj
                    · rename_i off ho
                      split at hj
                      · rename_i t ht
                        refine PW.step (q := (t, lvc, u, σ)) hi rfl (by simp only [stp, p1]; rw [if_neg hc, ho]; simp only [Option.bind_some, ht]) ?_
                        exact stay _ (hv.setE hs (by omega) (by omega)) rfl t hj
                      · cases hj
                    · cases hj
              · cases h2
            · cases h
          · -- invokevirtual
            rename_i idx
            split at h
            · rename_i y' hc
              split at h
              · rename_i b args hargs
                rw [Bool.and_eq_true, Bool.and_eq_true, Bool.and_eq_true, Bool.and_eq_true, decide_eq_true_eq, decide_eq_true_eq] at h
                obtain ⟨⟨⟨⟨h1, h2⟩, h3⟩, h4⟩, h5⟩ := h
                have hn := Nat.eq_of_beq_eq_true h1
                have ht := (hr.take (mNP y' + 1)).rev
                rw [hargs] at ht
                obtain ⟨vb, vsC, hvs, hvb, hvsC⟩ := ht.cons
                rw [hvs] at ht
                have evb := hvb.r
                subst evb
                have hd := hr.drop (mNP y' + 1)
                have hst : stc = vsC.reverse ++ Value.ref b :: stc.drop (mNP y' + 1) := by
                  have e := (List.take_append_drop (mNP y' + 1) stc).symm
                  have e2 : stc.take (mNP y' + 1) = vsC.reverse ++ [Value.ref b] := by
                    have := congrArg List.reverse hvs
                    rw [List.reverse_reverse, List.reverse_cons] at this
                    exact this
                  rw [e2, List.append_assoc] at e
                  exact e
                have hln : vsC.length = mNP y' := by rw [← hvsC.len]; exact hn
                have hla : (lva (Value.ref b :: vsC)).length ≤ mML y' := by rw [← (alva_ok ht).1]; exact h4
                rw [hst]
                refine PW.callV hi hc hln h2 (by rw [hd.sum]; exact h3) hla ?_
                cases hin : inN1 inl y' with
                | true =>
                  rw [hin, cond_true] at h5
                  exact ih _ _ _ _ _ _ _ h5 ν σ (ent y' (Value.ref b :: vsC)) [] ((y, pc + 3, lvc, stc.drop (mNP y' + 1)) :: frc) ⟨hv, aent_ok ht, trivial, ⟨rfl, rfl, hl, hd, hfr⟩, hy, hI, hF, hE⟩
                | false =>
                  rw [hin, cond_false] at h5
                  split at h5
                  · rename_i c hcc
                    rw [Bool.and_eq_true, Bool.and_eq_true] at h5
                    refine by_con hct hcc h5.1.1 h5.1.2 (fun a ha => ?_) hv hl ht hd hfr hy hI hF hE
                    have h6 := List.all_eq_true.mp h5.2 a ha
                    split at h6
                    · rename_i z hz
                      exact ⟨z, hz, ih _ _ _ _ _ _ _ h6⟩
                    · cases h6
                  · cases h5
              · cases h
            · cases h
          · -- invokestatic
            rename_i idx
            split at h
            · rename_i y' hc
              split at h
              · rename_i z hz
                obtain ⟨rc, σ', a1, a2, a3, a4, a5, a6⟩ := acpB_ok (pc := pc) (lvc := lvc) hz hv hr hI hF
                exact PW.copy hi hc a1 (ih _ _ _ _ _ _ _ h ν σ' lvc rc frc ⟨a2, by rw [a3]; exact hl, by rw [a3]; exact a4, by rw [a3]; exact hfr, hy, a5, a6, by rw [a3]; exact hE⟩)
              · cases h
            · rename_i y' hc
              split at h
              · rename_i z hz
                rw [Bool.and_eq_true, decide_eq_true_eq] at h
                obtain ⟨b, r1, rfl, g1⟩ := a1_ok hz
                obtain ⟨a, r, rfl, g2⟩ := a1_ok g1
                obtain ⟨w, hw, g3⟩ := Option.bind_eq_some_iff.mp g2
                cases g3
                obtain ⟨v1, u1, rfl, hv1, hr1⟩ := hr.cons
                obtain ⟨v2, u2, rfl, hv2, hr2⟩ := hr1.cons
                obtain ⟨hb, yy, rfl, ey⟩ := hv1.i
                obtain ⟨ha, xx, rfl, ex⟩ := hv2.i
                obtain ⟨ν1, x1, x2, x3, x4, x5, x6⟩ := kbin_ok hv (op := 12) (by decide) ex ey hw
                refine PW.max (q := (pc + 3, lvc, .int (bf 12 xx yy) :: u2, σ)) hi hc (by simp only [mmx, p2]; rw [if_pos (by rw [hr2.sum]; exact h.1)]; rfl) ?_
                exact ih _ _ _ _ _ _ _ h.2 ν1 σ lvc _ frc ⟨x3, hl.mono x1 x2, ⟨⟨x4, _, rfl, x5.symm⟩, hr2.mono x1 x2⟩, hfr.mono x1 x2, hy, hI, hF, hE.mono x1 x2⟩
              · cases h
            · rename_i y' hc
              split at h
              · rename_i z hz
                rw [Bool.and_eq_true, decide_eq_true_eq] at h
                obtain ⟨b, r1, rfl, g1⟩ := a1_ok hz
                obtain ⟨a, r, rfl, g2⟩ := a1_ok g1
                obtain ⟨w, hw, g3⟩ := Option.bind_eq_some_iff.mp g2
                cases g3
                obtain ⟨v1, u1, rfl, hv1, hr1⟩ := hr.cons
                obtain ⟨v2, u2, rfl, hv2, hr2⟩ := hr1.cons
                obtain ⟨hb, yy, rfl, ey⟩ := hv1.i
                obtain ⟨ha, xx, rfl, ex⟩ := hv2.i
                obtain ⟨ν1, x1, x2, x3, x4, x5, x6⟩ := kbin_ok hv (op := 13) (by decide) ex ey hw
                refine PW.min (q := (pc + 3, lvc, .int (bf 13 xx yy) :: u2, σ)) hi hc (by simp only [mmn, p2]; rw [if_pos (by rw [hr2.sum]; exact h.1)]; rfl) ?_
                exact ih _ _ _ _ _ _ _ h.2 ν1 σ lvc _ frc ⟨x3, hl.mono x1 x2, ⟨⟨x4, _, rfl, x5.symm⟩, hr2.mono x1 x2⟩, hfr.mono x1 x2, hy, hI, hF, hE.mono x1 x2⟩
              · cases h
            · rename_i k y' n1 n2 n3 n4
              have hc : pcall y idx = some (k, y') := by assumption
              rw [Bool.and_eq_true, Bool.and_eq_true, Bool.and_eq_true, Bool.and_eq_true, Bool.or_eq_true, decide_eq_true_eq, decide_eq_true_eq] at h
              obtain ⟨⟨⟨⟨h0, h1⟩, h3⟩, h4⟩, h5⟩ := h
              have hk : k = 1 ∨ k = 2 := h0.imp Nat.eq_of_beq_eq_true Nat.eq_of_beq_eq_true
              have hn := Nat.eq_of_beq_eq_true h1
              have ht := (hr.take (mNP y')).rev
              have hd := hr.drop (mNP y')
              have hst : stc = ((stc.take (mNP y')).reverse).reverse ++ stc.drop (mNP y') := by rw [List.reverse_reverse, List.take_append_drop]
              have hln : ((stc.take (mNP y')).reverse).length = mNP y' := by rw [← ht.len]; exact hn
              have hla : (lva ((stc.take (mNP y')).reverse)).length ≤ mML y' := by rw [← (alva_ok ht).1]; exact h4
              rw [hst]
              refine PW.callS hi hc hk hln (by rw [hd.sum]; exact h3) hla ?_
              cases hin : inN1 inl y' with
              | true =>
                rw [hin, cond_true] at h5
                exact ih _ _ _ _ _ _ _ h5 ν σ (ent y' ((stc.take (mNP y')).reverse)) [] ((y, pc + 3, lvc, stc.drop (mNP y')) :: frc) ⟨hv, aent_ok ht, trivial, ⟨rfl, rfl, hl, hd, hfr⟩, hy, hI, hF, hE⟩
              | false =>
                rw [hin, cond_false] at h5
                split at h5
                · rename_i c hcc
                  rw [Bool.and_eq_true, Bool.and_eq_true] at h5
                  refine by_con hct hcc h5.1.1 h5.1.2 (fun a ha => ?_) hv hl ht hd hfr hy hI hF hE
                  have h6 := List.all_eq_true.mp h5.2 a ha
                  split at h6
                  · rename_i z hz
                    exact ⟨z, hz, ih _ _ _ _ _ _ _ h6⟩
                  · cases h6
                · cases h5
            · cases h
          · -- a plain step
            split at h
            · rename_i q hq
              have hsc : ∀ L, (match fr with | [] => scr | _ => none) = some L → ∃ (Ln : Nat) (xs : Nat → Int32), Xof X frc = some (Ln, xs) ∧ X = Xof X frc ∧ ν L = (Ln : Int) ∧ Ln < 2 ^ 31 ∧ L < kN K := by
                intro L hL
                match fr, frc, hfr, hL with
                | [], [], _, hL =>
                  obtain ⟨Ln, xs, e1, e2, e3, e4⟩ := hE.2.2.2 L hL
                  exact ⟨Ln, xs, e1, rfl, e2, e3, e4⟩
                | _ :: _, _ :: _, _, hL => cases hL
              obtain ⟨ν1, lvc1, stc1, σ1, s1, s2, s3, s4, s5, s6, s7, s8⟩ := astep_ok (pc := pc) hq hv hl hr hI hF hsc
              exact PW.step hi (astep_isSt hq) s1 (ih _ _ _ _ _ _ _ h ν1 σ1 lvc1 stc1 frc ⟨s4, s5, s6, hfr.mono s2 s3, hy, s7, s8, hE.mono s2 s3⟩)
            · cases h
