/-! walk, day, drift over all of the state -/
theorem ag_walk1 {σ : St} {a b c : Int32} (hJ : J3 σ) (j1 : CI 65 [.ref 0, .int a, .int b, .int c] σ (fun _ σ' => J σ')) (j2 : ∀ σ1, J σ1 → CI 161 [.ref 39, .int a, .int b, .int c] σ1 (fun _ σ' => J σ')) : CI 65 [.ref 0, .int a, .int b, .int c] σ (fun v1 σ1 => CI 161 [.ref 39, .int a, .int b, .int c] σ1 (fun v2 σ2 => v2 = v1 ∧ J2 D1 σ2 ∧ BX σ2)) := by
  refine ag_op1 hJ j1 j2 fun P x n hx hm hb hc hV hB => ?_
  have h5 := hb.1
  have h8 := hx.1.1
  have hI := hJ.1.1.1
  have hP := PG_of hI hx.1 hm
  have l0 : (0 : Int32).toInt = 0 := rfl
  have l1 : (1 : Int32).toInt = 1 := rfl
  have lm : (999999 : Int32).toInt = 999999 := rfl
  have fl := hB.2.2.1.2.2
  have rf := ti_r (cls σ 3)
  have e1 : (cls σ 3 + 1).toInt = (cls σ 3).toInt + 1 := by rw [ti_add (by rw [l1]; omega) (by rw [l1]; omega), l1]
  refine ⟨(inR (P.1 2) a ∧ twoR (P.1 0) b c) ∧ ¬ ds P (σ 20 a.toNatClampNeg) c.toNatClampNeg b.toNatClampNeg = FARI, if gf (σ 19 0) (wy P (σ 20 a.toNatClampNeg) (ds P (σ 20 a.toNatClampNeg) c.toNatClampNeg) (ds P (σ 20 a.toNatClampNeg) c.toNatClampNeg b.toNatClampNeg).toNat b.toNatClampNeg) 0 = -1 then cls σ else vu (cls σ) 3 (if cls σ 3 + 1 < 999999 then cls σ 3 + 1 else 999999), wkA P (σ 20) (σ 19 0) a b c, fun _ => ?_, ?_, fun σ1 J1 e39 => ?_⟩
  · split
    · exact hB.2.2.1
    · refine ⟨fun i hi => by rw [vu_n (by omega)]; exact hB.2.2.1.1 i hi, fun m hm i hi => by rw [vu_n (by omega)]; exact hB.2.2.1.2.1 m hm i hi, ?_⟩
      rw [vu_s]
      split
      · rename_i q
        rw [Int32.lt_iff_toInt_lt, lm] at q
        omega
      · rw [lm]; exact Int.le_refl _
  · refine w_65 (s_86 hb.2.2.2.2.1 h5 (ite10 (fun c1 => s_89 hx.2.1 h8 (ite10 (fun c2 => ?_) (fun c2 => ⟨?_, Or.inl ⟨fun z => c2 z.1.2, fun _ _ _ => rfl⟩⟩))) (fun c1 => ⟨?_, Or.inl ⟨fun z => c1 z.1.1, fun _ _ _ => rfl⟩⟩)))
    · refine ⟨by unfold inR at c1; omega, ?_⟩
      obtain ⟨kc, hkc, rfl, ec⟩ := inR_n c2.2.1
      obtain ⟨kb, hkb, rfl, eb⟩ := inR_n c2.1
      rw [eb, ec]
      have ev : wkA P (σ 20) (σ 19 0) a (Int32.ofNat kb) (Int32.ofNat kc) = (if ds P (σ 20 a.toNatClampNeg) kc kb = FARI then -1000000003 else if gf (σ 19 0) (wy P (σ 20 a.toNatClampNeg) (ds P (σ 20 a.toNatClampNeg) kc) (ds P (σ 20 a.toNatClampNeg) kc kb).toNat kb) 0 = -1 then 1 else 0) := by
        unfold wkA
        rw [if_pos ⟨c1, c2⟩, ec, eb]
      rw [ev]
      refine m_38 hI hx hm hkc fun σ3 I3 f3 F M => ⟨by rw [ti_of (by omega)]; omega, ?_⟩
      by_cases far : ds P (σ 20 a.toNatClampNeg) kc kb = FARI
      · rw [if_pos ((MF_n hP M hkb).mpr far), if_pos far]
        exact ⟨rfl, Or.inl ⟨fun z => z.2 far, f3⟩⟩
      · rw [if_neg (fun z => far ((MF_n hP M hkb).mp z)), if_neg far]
        have hb3 : B2 σ3 (P.1 2) (P.1 1) x n := by
          obtain ⟨q1, q2, q3, q4, q5, q6, q7, q8, q9⟩ := hb
          exact ⟨q1, q2, q3, q4, by rw [f3 11 2 (by omega)]; exact q5, by rw [f3 11 1 (by omega)]; exact q6, by rw [f3 22 0 (by omega)]; exact q7, by rw [f3 24 1 (by omega)]; exact q8, by rw [f3 24 2 (by omega)]; exact q9⟩
        refine s_9I I3 hb3 fun σ4 I4 r4 f4 => ?_
        have hr := F.1.1 kb hkb
        have g1 := (FP_good hP F).1 kb hkb (by omega)
        have rc := RC_pre r4 (σ := σ) (fun k j h => f3 k j (by omega))
        have fc : ∀ k j, ¬ k = 23 → ¬ k = 24 → ¬ k = 28 → σ4 k j = σ k j := fun k j h1 h2 h3 => (f4 k j h1 (by omega)).trans (f3 k j h3)
        have cc : cls σ4 = cls σ := cls_fx fun k j h1 h2 => fc k j (by omega) (by omega) (by omega)
        have x4 : XP σ4 P := XP_ex (fun k j hk => fc k j (by omega) (by omega) (by omega)) hx
        have M4 : MF σ4 P (ds P (σ 20 a.toNatClampNeg) kc) := by
          have e28 : ∀ v, σ4 28 v = σ3 28 v := fun v => f4 28 v (by omega) (by omega)
          refine ⟨fun v hv => by rw [e28]; exact M.1 v hv, fun v hv => ?_⟩
          rw [← M.2 v hv]
          unfold DF
          rw [e28]
        refine s_43 x4 hP F M4 hkb (n := (ds P (σ 20 a.toNatClampNeg) kc kb).toNat) (by omega) (by omega) ?_
        rw [fc 19 0 (by omega) (by omega) (by omega)]
        have ok : (inR (P.1 2) a ∧ twoR (P.1 0) (Int32.ofNat kb) (Int32.ofNat kc)) ∧ ¬ ds P (σ 20 a.toNatClampNeg) kc kb = FARI := ⟨⟨c1, c2⟩, far⟩
        by_cases g : gf (σ 19 0) (wy P (σ 20 a.toNatClampNeg) (ds P (σ 20 a.toNatClampNeg) kc) (ds P (σ 20 a.toNatClampNeg) kc kb).toNat kb) 0 = -1
        · rw [if_pos g, if_pos g, if_pos g]
          exact ⟨rfl, Or.inr ⟨ok, rc, fun k j _ h2 h3 h4 => fc k j h2 h3 h4, cc⟩⟩
        · rw [if_neg g, if_neg g, if_neg g]
          refine ⟨rfl, Or.inr ⟨ok, RC_ex rc (fun j => s2_ne _ _ (by omega)) (fun j => s2_ne _ _ (by omega)), fun k j h1 h2 h3 h4 => by rw [s2_ne _ _ (by omega)]; exact fc k j h2 h3 h4, ?_⟩⟩
          rw [cls_19 (by omega), cc, show σ4 19 3 = cls σ4 3 from rfl, cc]
    · unfold wkA
      rw [if_neg (fun z => c2 z.2)]
    · unfold wkA
      rw [if_neg (fun z => c1 z.1)]
  · have hc1 := C2_39 hc e39
    have hm1 := MPl_ex (fun k j hk => e39 k j (by omega)) hm
    have V1 := hV σ1 e39
    refine w_161 (s_115 hc1.2.2.2.1 h5 (ite10 (fun c1 => s_113 hm1.1 h8 (ite10 (fun c2 => ?_) (fun c2 => ⟨?_, Or.inl ⟨fun z => c2 z.1.2, fun _ _ _ _ => rfl⟩⟩))) (fun c1 => ⟨?_, Or.inl ⟨fun z => c1 z.1.1, fun _ _ _ _ => rfl⟩⟩)))
    · refine ⟨by unfold inR at c1; omega, ?_⟩
      obtain ⟨kc, hkc, rfl, ec⟩ := inR_n c2.2.1
      obtain ⟨kb, hkb, rfl, eb⟩ := inR_n c2.1
      obtain ⟨ka, hka, rfl, ea⟩ := inR_n c1
      rw [eb, ec, ea]
      have ew : σ1 46 ka = σ 20 ka := (V1.s h5 hka).trans (cls5 (by omega))
      have el : σ1 46 10 = σ 19 0 := V1.c.1
      have ev : wkA P (σ 20) (σ 19 0) (Int32.ofNat ka) (Int32.ofNat kb) (Int32.ofNat kc) = (if ds P (σ 20 ka) kc kb = FARI then -1000000003 else if gf (σ 19 0) (wy P (σ 20 ka) (ds P (σ 20 ka) kc) (ds P (σ 20 ka) kc kb).toNat kb) 0 = -1 then 1 else 0) := by
        unfold wkA
        rw [if_pos ⟨c1, c2⟩, ec, eb, ea]
      rw [ev, ew]
      refine m_142w J1.1 hx.1 hm1 hkb hkc (fun F far σ' f => ?_) (fun F m hm7 hd σ3 f3 h3 hl => ?_)
      · rw [if_neg (by decide), if_pos far]
        exact ⟨rfl, Or.inl ⟨fun z => z.2 far, f⟩⟩
      · rw [if_pos (by rw [Int32.le_iff_toInt_le, l0, ti_of (by omega)]; omega)]
        have nf : ¬ ds P (σ 20 ka) kc kb = FARI := by unfold FARI; omega
        have en : (ds P (σ 20 ka) kc kb).toNat = m := by omega
        rw [if_neg nf, en]
        refine s_153 hc1.2.2.1 ((f3 39 32 (by omega) (by omega)).trans hc1.2.2.2.2.2) fun σ4 r4 f4 => ?_
        have rm := RM_pre r4 (σ := σ1) (fun k j h => f3 k j (by omega) (by omega))
        have fc : ∀ k j, ¬ k = 56 → ¬ (k = 39 ∧ j = 32) → ¬ k = 54 → ¬ k = 55 → σ4 k j = σ1 k j := fun k j h1 h2 h3 h4 => (f4 k j h1 h2).trans (f3 k j h3 h4)
        refine s_143 (by omega) hl (hst_ex (fun j => f4 55 j (by omega) (by omega)) _ _ h3) ?_
        have V4 : Vm1 (P.1 2) σ4 (cls σ) := V1.ex (fun j => fc 46 j (by omega) (by omega) (by omega) (by omega)) (fc 39 12 (by omega) (by omega) (by omega) (by omega))
        rw [(fc 46 10 (by omega) (by omega) (by omega) (by omega)).trans el, V4.c.2.2.2.1]
        have g := gf_c (σ 19 0) (wy P (σ 20 ka) (ds P (σ 20 ka) kc) m kb) 0 (by omega)
        have ok : (inR (P.1 2) (Int32.ofNat ka) ∧ twoR (P.1 0) (Int32.ofNat kb) (Int32.ofNat kc)) ∧ ¬ ds P (σ 20 ka) kc kb = FARI := ⟨⟨c1, c2⟩, nf⟩
        have go : ∀ w W, Vm1 (P.1 2) (s2 σ4 46 12 w) W → ((inR (P.1 2) (Int32.ofNat ka) ∧ twoR (P.1 0) (Int32.ofNat kb) (Int32.ofNat kc)) ∧ ¬ ds P (σ 20 ka) kc kb = FARI) ∧ RMm n σ1 (s2 σ4 46 12 w) ∧ (∀ k j, ¬ k = 46 → ¬ k = 56 → ¬ k = 54 → ¬ k = 55 → ¬ (k = 39 ∧ (j = 32 ∨ j = 12)) → (s2 σ4 46 12 w) k j = σ1 k j) ∧ Vm1 (P.1 2) (s2 σ4 46 12 w) W := fun w W hW =>
          ⟨ok, ⟨by rw [s2_ne _ _ (by omega)]; exact rm.1, fun j hj => by rw [s2_ne _ _ (by omega)]; exact rm.2 j hj⟩, fun k j h1 h2 h3 h4 h5 => by rw [s2_ne _ _ (by omega)]; exact fc k j h2 (by omega) h3 h4, hW⟩
        have same : vu (cls σ) 3 (cls σ 3 + 0) = cls σ := funext fun c => by
          show (if c = 3 then cls σ 3 + 0 else cls σ c) = cls σ c
          split
          · rename_i e; rw [e, ad_z]
          · rfl
        have up : ∀ w, Vm1 (P.1 2) (s2 σ4 46 12 w) (vu (cls σ) 3 w) := fun w => V4.u (c0 := 3) (by omega) (by omega) rfl w
        by_cases q : gf (σ 19 0) (wy P (σ 20 ka) (ds P (σ 20 ka) kc) m kb) 0 = -1
        · rw [if_pos q, if_pos q, q, if_pos (by decide)]
          have u := up (cls σ 3 + 0)
          rw [same] at u
          exact ⟨rfl, Or.inr (go _ _ u)⟩
        · rw [if_neg q, if_neg q]
          have := g.resolve_left q
          rw [if_neg (by rw [Int32.lt_iff_toInt_lt, l0]; omega)]
          by_cases s : 999999 ≤ cls σ 3
          · rw [if_pos s]
            rw [Int32.le_iff_toInt_le, lm] at s
            have e3 : cls σ 3 = 999999 := ti_inj (by rw [lm]; omega)
            rw [if_neg (by rw [Int32.lt_iff_toInt_lt, e1, lm]; omega)]
            have u := up (cls σ 3 + 0)
            rw [ad_z] at u ⊢
            rw [show vu (cls σ) 3 999999 = vu (cls σ) 3 (cls σ 3) by rw [e3]]
            exact ⟨rfl, Or.inr (go _ _ u)⟩
          · rw [if_neg s]
            rw [Int32.le_iff_toInt_le, lm] at s
            have u := up (cls σ 3 + 1)
            by_cases s2' : cls σ 3 + 1 < 999999
            · rw [if_pos s2']
              exact ⟨rfl, Or.inr (go _ _ u)⟩
            · rw [if_neg s2']
              rw [Int32.lt_iff_toInt_lt, e1, lm] at s2'
              have e4 : cls σ 3 + 1 = 999999 := ti_inj (by rw [e1, lm]; omega)
              rw [e4] at u ⊢
              exact ⟨rfl, Or.inr (go _ _ u)⟩
    · unfold wkA
      rw [if_neg (fun z => c2 z.2)]
    · unfold wkA
      rw [if_neg (fun z => c1 z.1)]
/-! days -/
def dRf (N : Nat) (d a : Int32) : Int32 := if 1 ≤ a ∧ a ≤ 60 then (if N = 0 then -1000000003 else if d ≤ 9000 then 0 else -1000000004) else -1000000002
theorem dRf_0 {N : Nat} {d a : Int32} : dRf N d a = 0 ↔ dP N d a := by
  unfold dRf dP
  by_cases c1 : 1 ≤ a ∧ a ≤ 60
  · rw [if_pos c1]
    by_cases c2 : N = 0
    · rw [if_pos c2]; exact ⟨fun z => absurd z (by decide), fun z => absurd c2 z.2.1⟩
    · rw [if_neg c2]
      by_cases c3 : d ≤ 9000
      · rw [if_pos c3]; exact ⟨fun _ => ⟨c1, c2, c3⟩, fun _ => rfl⟩
      · rw [if_neg c3]; exact ⟨fun z => absurd z (by decide), fun z => absurd z.2.2 c3⟩
  · rw [if_neg c1]; exact ⟨fun z => absurd z (by decide), fun z => absurd z.1 c1⟩
theorem s_102v {σ : St} {N : Nat} {a : Int32} {K : Int32 → St → Prop} (h : σ 11 0 = Int32.ofNat N) (hN : N ≤ 8) (hK : K (dRf N (σ 19 1) a) σ) : CI 102 [.ref 0, .int a] σ K := by
  unfold dRf at hK
  refine w_102 (s_91 (ite10 (fun c1 => ?_) (fun c1 => ?_)))
  · rw [if_pos c1] at hK
    by_cases c2 : N = 0
    · rw [if_pos (by rw [h, c2]; rfl)]; rw [if_pos c2] at hK; exact hK
    · rw [if_neg (by rw [h]; exact fun z => c2 ((of_z (by omega)).mp z))]
      rw [if_neg c2] at hK
      by_cases c3 : σ 19 1 ≤ 9000
      · rw [if_pos c3] at hK ⊢; exact hK
      · rw [if_neg c3] at hK ⊢; exact hK
  · rw [if_neg c1] at hK; exact hK
theorem s_164v {σ : St} {N : Nat} {a : Int32} {K : Int32 → St → Prop} (h : σ 39 0 = Int32.ofNat N) (hN : N ≤ 8) (hK : K (dRf N (σ 46 13) a) σ) : CI 164 [.ref 39, .int a] σ K := by
  unfold dRf at hK
  refine w_164 (s_109 (b := 1) (c := 60) (ite10 (fun c1 => ?_) (fun c1 => ?_)))
  · rw [if_pos c1] at hK
    by_cases c2 : N = 0
    · rw [if_pos (by rw [h, c2]; rfl)]; rw [if_pos c2] at hK; exact hK
    · rw [if_neg (by rw [h]; exact fun z => c2 ((of_z (by omega)).mp z))]
      rw [if_neg c2] at hK
      by_cases c3 : σ 46 13 ≤ 9000
      · rw [if_pos c3] at hK ⊢; exact hK
      · rw [if_neg c3] at hK ⊢; exact hK
  · rw [if_neg c1] at hK; exact hK
theorem ag_day1 {σ : St} {a : Int32} (hJ : J3 σ) (j1 : CI 66 [.ref 0, .int a] σ (fun _ σ' => J σ')) (j2 : ∀ σ1, J σ1 → CI 165 [.ref 39, .int a] σ1 (fun _ σ' => J σ')) : CI 66 [.ref 0, .int a] σ (fun v1 σ1 => CI 165 [.ref 39, .int a] σ1 (fun v2 σ2 => v2 = v1 ∧ J2 D1 σ2 ∧ BX σ2)) := by
  refine ag_op1 hJ j1 j2 fun P x n hx hm hb hc hV hB => ?_
  have h5 := hb.1
  have h8 := hx.1.1
  refine ⟨dP (P.1 0) (σ 19 1) a, itV (dyF P) a.toNatClampNeg (cls σ), if dRf (P.1 0) (σ 19 1) a = 0 then alO (P.1 2) (itV (dyF P) a.toNatClampNeg (cls σ)) else dRf (P.1 0) (σ 19 1) a, fun _ => BG_it (fun V h => BG_dy h5 h) _ _ hB.2.2.1, ?_, fun σ1 J1 e39 => ?_⟩
  · refine w_66 (s_102v hx.2.1 h8 ?_)
    by_cases p : dRf (P.1 0) (σ 19 1) a = 0
    · rw [if_pos p, if_pos p]
      have p' := dRf_0.mp p
      refine s_9I hJ.1.1.1 hb fun σ1 I1 r1 f1 => ?_
      obtain ⟨A, hA, rfl⟩ := dP_n p'
      rw [tc_of (by omega)]
      have cc : cls σ1 = cls σ := cls_fx fun k j h1 h2 => f1 k j (by omega) (by omega)
      refine d1_66 hA (XP_ex (fun k j hk => f1 k j (by omega) (by omega)) hx) A 0 (by omega) I1 (fun _ _ _ => rfl) (fun σ' f c => ?_)
      rw [cc] at c
      rw [c]
      exact ⟨rfl, Or.inr ⟨p', RC_ex r1 (fun j => f 23 j (by omega)) (fun j => f 24 j (by omega)), fun k j h1 h2 h3 h4 => (f k j h1).trans (f1 k j h2 (by omega)), rfl⟩⟩
    · rw [if_neg p, if_neg p]
      exact ⟨rfl, Or.inl ⟨fun z => p (dRf_0.mpr z), fun _ _ _ => rfl⟩⟩
  · have hc1 := C2_39 hc e39
    have hm1 := MPl_ex (fun k j hk => e39 k j (by omega)) hm
    have V1 := hV σ1 e39
    refine w_165 (s_164v hm1.1 h8 ?_)
    rw [show σ1 46 13 = σ 19 1 from V1.c.2.1]
    by_cases p : dRf (P.1 0) (σ 19 1) a = 0
    · rw [if_pos p, if_pos p]
      have p' := dRf_0.mp p
      refine s_153I J1.1 hc1 fun σ2 I2 r2 f2 => ?_
      obtain ⟨A, hA, rfl⟩ := dP_n p'
      rw [tc_of (by omega)]
      refine d1_165 hA hx.1 hB.1 (MPl_ex (fun k j hk => f2 k j (by omega) (by omega)) hm1) A 0 (by omega) I2 (fun _ _ _ _ => rfl) (V1.ex (fun j => f2 46 j (by omega) (by omega)) (f2 39 12 (by omega) (by omega))) (fun σ' f V' => ?_)
      exact ⟨rfl, Or.inr ⟨p', ⟨(f 39 32 (by omega) (by omega)).trans r2.1, fun j hj => (f 56 j (by omega) (by omega)).trans (r2.2 j hj)⟩, fun k j h1 h2 h3 h4 h5 => (f k j h1 (by omega)).trans (f2 k j h2 (by omega)), V'⟩⟩
    · rw [if_neg p, if_neg p]
      exact ⟨rfl, Or.inl ⟨fun z => p (dRf_0.mpr z), fun _ _ _ _ => rfl⟩⟩
theorem ag_drift1 {σ : St} {a : Int32} (hJ : J3 σ) (j1 : CI 67 [.ref 0, .int a] σ (fun _ σ' => J σ')) (j2 : ∀ σ1, J σ1 → CI 168 [.ref 39, .int a] σ1 (fun _ σ' => J σ')) : CI 67 [.ref 0, .int a] σ (fun v1 σ1 => CI 168 [.ref 39, .int a] σ1 (fun v2 σ2 => v2 = v1 ∧ J2 D1 σ2 ∧ BX σ2)) := by
  refine ag_op1 hJ j1 j2 fun P x n hx hm hb hc hV hB => ?_
  have h5 := hb.1
  have h8 := hx.1.1
  obtain ⟨f, hf, hq⟩ := hB.2.1
  refine ⟨dP (P.1 0) (σ 19 1) a, itV (drF P f) a.toNatClampNeg (cls σ), if dRf (P.1 0) (σ 19 1) a = 0 then alO (P.1 2) (itV (drF P f) a.toNatClampNeg (cls σ)) else dRf (P.1 0) (σ 19 1) a, fun _ => BG_it (fun V h => BG_dr hx.1 h) _ _ hB.2.2.1, ?_, fun σ1 J1 e39 => ?_⟩
  · refine w_67 (s_102v hx.2.1 h8 ?_)
    by_cases p : dRf (P.1 0) (σ 19 1) a = 0
    · rw [if_pos p, if_pos p]
      have p' := dRf_0.mp p
      refine s_9I hJ.1.1.1 hb fun σ1 I1 r1 f1 => ?_
      obtain ⟨A, hA, rfl⟩ := dP_n p'
      rw [tc_of (by omega)]
      have cc : cls σ1 = cls σ := cls_fx fun k j h1 h2 => f1 k j (by omega) (by omega)
      refine d1_67 (f := f) hA (XP_ex (fun k j hk => f1 k j (by omega) (by omega)) hx) (fun i hi => (f1 15 i (by omega) (by omega)).trans (hq i hi)) hf.1 A 0 (by omega) I1 (fun _ _ _ => rfl) (fun σ' g c => ?_)
      rw [cc] at c
      rw [c]
      exact ⟨rfl, Or.inr ⟨p', RC_ex r1 (fun j => g 23 j (by omega)) (fun j => g 24 j (by omega)), fun k j h1 h2 h3 h4 => (g k j h1).trans (f1 k j h2 (by omega)), rfl⟩⟩
    · rw [if_neg p, if_neg p]
      exact ⟨rfl, Or.inl ⟨fun z => p (dRf_0.mpr z), fun _ _ _ => rfl⟩⟩
  · have hc1 := C2_39 hc e39
    have hm1 := MPl_ex (fun k j hk => e39 k j (by omega)) hm
    have V1 := hV σ1 e39
    refine w_168 (s_164v hm1.1 h8 ?_)
    rw [show σ1 46 13 = σ 19 1 from V1.c.2.1]
    by_cases p : dRf (P.1 0) (σ 19 1) a = 0
    · rw [if_pos p, if_pos p]
      have p' := dRf_0.mp p
      refine s_153I J1.1 hc1 fun σ2 I2 r2 f2 => ?_
      obtain ⟨A, hA, rfl⟩ := dP_n p'
      rw [tc_of (by omega)]
      refine d1_168 (f := f) hA hx.1 hB.1 hf (MPl_ex (fun k j hk => f2 k j (by omega) (by omega)) hm1) A 0 (by omega) I2 (fun _ _ _ _ => rfl) hB.2.2.1 (V1.ex (fun j => f2 46 j (by omega) (by omega)) (f2 39 12 (by omega) (by omega))) (fun σ' g V' => ?_)
      exact ⟨rfl, Or.inr ⟨p', ⟨(g 39 32 (by omega) (by omega)).trans r2.1, fun j hj => (g 56 j (by omega) (by omega)).trans (r2.2 j hj)⟩, fun k j h1 h2 h3 h4 h5 => (g k j h1 (by omega)).trans (f2 k j h2 (by omega)), V'⟩⟩
    · rw [if_neg p, if_neg p]
      exact ⟨rfl, Or.inl ⟨fun z => p (dRf_0.mpr z), fun _ _ _ _ => rfl⟩⟩
