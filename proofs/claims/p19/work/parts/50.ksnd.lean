/-! the constructors' machine is the machine's -/
theorem kcal_ok {y pc ln : Nat} {i : Instr} {idx y' : Nat} {nest : Bool} (hi : kin y pc = some (i, ln)) (h : kcal y i = some (idx, nest, y')) : i = .invokespecial idx ∧ y' < 11 ∧ kFR y' + 1 ≤ kFR y ∧ 8 + (kML y' + 11) + kLO y' ≤ kLO y ∧ Jvm.Cond.instanceMethod (knm y') ∈ lw_tbl ∧ Jvm.Cond.initialized (knm y').cls ∈ lw_tbl ∧ (nest = false → Jvm.Cond.methodLink (knm y).cls idx (knm y') ∈ lw_tbl) ∧ (nest = true → Jvm.Cond.methodLinkNest (knm y).cls idx (knm y') "MapDuty" ∈ lw_tbl) := by
  unfold kcal at h
  split at h
  · rename_i idx2
    split at h
    · rename_i y2 b h1 h2 h3 hk
      cases h
      obtain ⟨-, hw⟩ := klink_ok hk
      have hw : chkKC false (knm y).cls y idx y' h1 h2 h3 = true := hw
      unfold chkKC at hw
      simp only [Bool.and_eq_true, decide_eq_true_eq] at hw
      obtain ⟨⟨⟨⟨⟨w1, w2⟩, w3⟩, w4⟩, w5⟩, w6⟩ := hw
      exact ⟨rfl, w6, w4, w5, okW_mem w2, okW_mem w3, fun _ => okW_mem w1, fun e => by cases e⟩
    · rename_i y2 b h1 h2 h3 hk
      cases h
      obtain ⟨-, hw⟩ := klink_ok hk
      have hw : chkKC true (knm y).cls y idx y' h1 h2 h3 = true := hw
      unfold chkKC at hw
      simp only [Bool.and_eq_true, decide_eq_true_eq] at hw
      obtain ⟨⟨⟨⟨⟨w1, w2⟩, w3⟩, w4⟩, w5⟩, w6⟩ := hw
      exact ⟨rfl, w6, w4, w5, okW_mem w2, okW_mem w3, (fun e => by cases e), fun _ => okW_mem w1⟩
    · cases h
  · cases h
theorem len1 {b n : Nat} (h : b + 1 = n) : b ≤ n := by omega
theorem len2 {b n k : Nat} (h : b + 1 = n) (h1 : 1 ≤ k) : n ≤ min b n + k := by omega
set_option maxHeartbeats 4000000 in
theorem ksd_all : ∀ f, Ksd f := by
  intro f
  induction f with
  | zero => intro l dC dI cI cZ y stop pc lv st cs ce sl r h; cases h
  | succ f ih =>
    intro l dC dI cI cZ y stop pc lv st cs ce sl r h p e R s m args below meth c H locs QQ ls A ad cx hP hD hS hL kk
    unfold kgo at h
    cases hst : Nat.beq pc stop with
    | true =>
      rw [hst, cond_true] at h
      have e1 := Nat.eq_of_beq_eq_true hst
      subst e1
      cases h
      exact kk ad H locs ls agr.rf (Nat.le_refl _) hP hD hS hL
    | false =>
      rw [hst, cond_false] at h
      split at h
      · cases h
      · rename_i i ln hi
        split at h
        · -- a constructor
          rename_i idx nest y' hcal
          obtain ⟨rfl, hy', hf1, hf2, wi, wn, wl, wN⟩ := kcal_ok hi hcal
          obtain ⟨hy, hd, hln⟩ := kin_ok hi
          obtain rfl : 3 = ln := hln.resolve_right (by simp [isSw])
          obtain ⟨hx, hb, hml, hown, hts, hnw, hfr, hlo, hRc, hRs, hK, hA, hin2⟩ := id cx
          have hmo := kmet_ok (y := y') (by omega)
          have hco := kcon_ok hy'
          split at h
          · rename_i b rest hdr
            split at h
            · rename_i ci fs hcb
              split at h
              · rename_i hc
                obtain ⟨⟨c1, c2, c3, c4, c5⟩, c6, c7, ⟨c8, c9⟩, c10⟩ := hc
                split at h
                · rename_i pc' lv' cs' ce' sl' hgo
                  split at h
                  · rename_i hc2
                    obtain ⟨⟨d1, d2⟩, ⟨d3, d4⟩, d5⟩ := hc2
                    generalize hpa : parg (st.take (kNP y')).reverse = pa at *
                    obtain ⟨s1, s2, s3, s4⟩ := scA_ok c7
                    have hst2 : st.map (tr ad) = ((st.take (kNP y')).reverse.map (tr ad)).reverse ++ .ref (ad b) :: rest.map (tr ad) := by
                      conv => lhs; rw [st_split st (kNP y') hdr]
                      simp [tr]
                    rw [hst2]
                    have hnr : ∀ v ∈ fs, noR v = true := List.all_eq_true.mp c2
                    have he0 : ∀ a2 : Nat → Nat, cw cI cZ a2 (.inr (ci, fs)) = .inr (ci, fs) := fun a2 => by unfold cw; dsimp only; rw [noR_map hnr]
                    have hw1 : cwd cI cZ (ad0 ad b pa) [.inr (ci, fs)] = [(ad b, .inr (ci, fs))] := by
                      show [(ad0 ad b pa 0, cw cI cZ (ad0 ad b pa) (.inr (ci, fs)))] = _
                      rw [he0]; rfl
                    have hgb := cwd_get (cI := cI) (cZ := cZ) (ad := ad) hcb
                    rw [he0] at hgb
                    have hC : [b].map (fun i => (cwd cI cZ ad cs)[i]?) = [((ad b, .inr (ci, fs)) : Nat × va_E)].map some := by
                      show [(cwd cI cZ ad cs)[b]?] = _
                      rw [hgb]; rfl
                    have hPc : va_P (dC, dI) vwCl (cwd cI cZ (ad0 ad b pa) [.inr (ci, fs)]) H := by
                      rw [hw1]
                      exact hP.sub [b] (by rw [List.filterMap_cons_some hgb, List.filterMap_nil])
                    have hDc : va_D A (cwd cI cZ (ad0 ad b pa) [.inr (ci, fs)]) := by
                      rw [hw1]
                      exact hD.sub [b] rfl hC
                    have hFc := va_free hD hS hA [b] hC
                    rw [← hw1] at hFc
                    have hav : (.ref (ad b) :: (st.take (kNP y')).reverse.map (tr ad)) = (Value.ref 0 :: (st.take (kNP y')).reverse.map pin).map (tr (ad0 ad b pa)) := by
                      rw [List.map_cons, pin_tr c10]; rfl
                    have hM := met_k ih l dC dI cI cZ (ad0 ad b pa) hy' hav rfl c6 hgo d1 d2 H.size
                    have hpre : PreS s H (pcK dC dI cI cZ (ad0 ad b pa) (.ref (ad b) :: (st.take (kNP y')).reverse.map (tr ad)) [.inr (ci, fs)] H.size) (.ref (ad b) :: (st.take (kNP y')).reverse.map (tr ad)) := ⟨pcK_blind _ _ _ _ _ _ _ _, fun U hU hW => ⟨rfl, by rw [hU], by rw [hU]; exact hPc, va_K.moved hW.alike hK, hDc.weaken (fun _ _ _ _ => trivial), NW.warm hW hnw⟩⟩
                    have hrun : va_Run p l e R s m args below meth c H locs ce sl (kCE y') (kSL y') (F0 m pc ls (((st.take (kNP y')).reverse.map (tr ad)).reverse ++ .ref (ad b) :: rest.map (tr ad))) (rest.map (tr ad)) (va_Qv (fun ad' : Nat → Nat => agr 1 (ad0 ad b pa) ad') (KB dC dI cI cZ (va_A (cwd cI cZ (ad0 ad b pa) [.inr (ci, fs)]) H.size) cs') (va_A (cwd cI cZ (ad0 ad b pa) [.inr (ci, fs)]) H.size) (Value.ref (ad b) :: (st.take (kNP y')).reverse.map (tr ad)).toArray) (va_A (cwd cI cZ (ad0 ad b pa) [.inr (ci, fs)]) H.size) := by
                      cases nest with
                      | false => exact va_runI (Ts := gw) (n := kNP y') ⟨hx, hb, hml, hown, hts⟩ hM (cwI (kNP y') hts (goodIn_wsK hy') rfl rfl rfl (hts _ (gw_mem wn rfl)) (hts _ (gw_mem (wl rfl) rfl)) (hts _ (gw_mem wi rfl)) hco.2.1 ⟨hmo.2.2.2.2.1, hmo.2.2.2.2.2, hmo.2.2.2.1⟩ ⟨Nat.le_trans hf1 hfr, Nat.le_trans hf2 hlo⟩) hpre rfl (by simpa using c4) hL.1 rfl (lv_room (by rw [tr_sum]; exact c5)) hd ⟨Nat.le_trans c8 hRc, Nat.le_trans c9 hRs⟩
                      | true => exact va_runIN (Ts := gw) (n := kNP y') ⟨hx, hb, hml, hown, hts⟩ hM ⟨va_cnB (kNP y') hts (goodIn_wsK hy') rfl rfl rfl (hnw _ (wN rfl) rfl) (hts _ (gw_mem wn rfl)) ⟨hmo.2.2.2.2.1, hmo.2.2.2.2.2, hmo.2.2.2.1⟩ ⟨Nat.le_trans hf1 hfr, Nat.le_trans hf2 hlo⟩, hco.2.1, hts _ (gw_mem wi rfl)⟩ hpre rfl (by simpa using c4) hL.1 rfl (lv_room (by rw [tr_sum]; exact c5)) hd ⟨Nat.le_trans c8 hRc, Nat.le_trans c9 hRs⟩
                    refine va_callv hrun hS (fun q _ h => hFc q h) hFc (fun ad2 t H1 locs1 ht hvm hag hB hz1 hk1 hS1 => ?_)
                    obtain ⟨hP1, -, hD1⟩ := hB
                    rw [ht] at hP1
                    have hbl : b ≤ (cwd cI cZ ad cs).length := by rw [cwd_len]; exact len1 c3
                    have hk2 : ∀ q : Nat, q < H.size → ¬ va_A [((ad b, .inr (ci, fs)) : Nat × va_E)] H.size q → H1[q]? = H[q]? := by rw [← hw1]; exact hk1
                    have hF2 : ∀ q, va_A [((ad b, .inr (ci, fs)) : Nat × va_E)] H.size q → A q := by rw [← hw1]; exact hFc
                    rw [hw1] at hD1
                    obtain ⟨hPj, hDj⟩ := va_join (wr := cwd cI cZ ad (cs.take b)) (w1 := cwd cI cZ ad2 cs') hP hD [b] (List.range b) hC (by rw [cwd_take]; exact range_take hbl) (va_nd_range b) (fun i hi hm => by rw [List.mem_singleton.mp hm] at hi; exact absurd (List.mem_range.mp hi) (Nat.lt_irrefl _)) hk2 hF2 hP1 hD1
                    have g0 : ad2 0 = ad b := hag 0 (Or.inl (by omega))
                    have g1 : ad2 1000 = ad pa := hag 1000 (Or.inr (by omega))
                    obtain ⟨hag2, hjo⟩ := cwd_join (cI := cI) (cZ := cZ) c3 s4 d3 d4 g0 g1 d5
                    rw [← hjo] at hPj hDj
                    rw [← sc_map hag2 s2]
                    have hle : cs.length ≤ (cs.take b ++ cs'.map (shE b pa)).length := by
                      rw [List.length_append, List.length_map, List.length_take]; exact len2 c3 d4
                    exact ih l dC dI cI cZ y stop (pc + 3) lv rest _ _ _ r h p e R s m args below meth c H1 locs1 QQ ls A (jad b ad ad2) cx hPj hDj hS1 (hL.agr hag2 s3) (fun ad' H' locs' ls' a1 a2 a3 a4 a5 a6 => kk ad' H' locs' ls' (hag2.trans a1 hle) (Nat.le_trans hle a2) a3 a4 a5 a6)
                  · cases h
                · cases h
              · cases h
            · cases h
          · cases h
        · split at h
          · rename_i q hq
            exact kst_sound hi hq cx hP hD hS hL (fun ad' H' locs' ls' a1 a2 a3 a4 a5 a6 => ih l dC dI cI cZ y stop _ _ _ _ _ _ r h p e R s m args below meth c H' locs' QQ ls' A ad' cx a3 a4 a5 a6 (fun ad'' H'' locs'' ls'' b1 b2 b3 b4 b5 b6 => kk ad'' H'' locs'' ls'' (a1.trans b1 a2) (Nat.le_trans a2 b2) b3 b4 b5 b6))
          · cases h
