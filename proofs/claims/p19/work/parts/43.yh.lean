/-! way, walk: the same answers -/
theorem ag_and {y1 y2 : Nat} {vs1 vs2 : List Value} {σ : St} {A B : Int32 → Int32 → St → Prop} (h1 : CI y1 vs1 σ (fun v1 σ1 => CI y2 vs2 σ1 (fun v2 σ2 => A v1 v2 σ2))) (h2 : CI y1 vs1 σ (fun v1 σ1 => CI y2 vs2 σ1 (fun v2 σ2 => B v1 v2 σ2))) : CI y1 vs1 σ (fun v1 σ1 => CI y2 vs2 σ1 (fun v2 σ2 => A v1 v2 σ2 ∧ B v1 v2 σ2)) := (h1.and h2).imp fun _ _ ⟨z1, z2⟩ => CI.and z1 z2
theorem ag_imp {y1 y2 : Nat} {vs1 vs2 : List Value} {σ : St} {A B : Int32 → Int32 → St → Prop} (h1 : CI y1 vs1 σ (fun v1 σ1 => CI y2 vs2 σ1 (fun v2 σ2 => A v1 v2 σ2))) (k : ∀ v1 v2 σ', A v1 v2 σ' → B v1 v2 σ') : CI y1 vs1 σ (fun v1 σ1 => CI y2 vs2 σ1 (fun v2 σ2 => B v1 v2 σ2)) := h1.imp fun v1 _ z1 => CI.imp z1 fun v2 σ2 z2 => k v1 v2 σ2 z2
/-- two calls that change nothing of the state -/
theorem ag_rd {D : Nat → Nat → Prop} {y1 y2 : Nat} {vs1 vs2 : List Value} {md1 md2 : List (Nat × Nat)} {am1 am2 : List Nat} {σ : St} (hJ : J2 D σ) (ag : CI y1 vs1 σ (fun v1 σ1 => CI y2 vs2 σ1 (fun v2 _ => v2 = v1))) (h1 : CI y1 vs1 σ (fun _ σ' => Inv σ' ∧ FrM md1 am1 σ σ')) (h2 : ∀ σ1, Inv σ1 → CI y2 vs2 σ1 (fun _ σ' => Inv σ' ∧ FrM md2 am2 σ1 σ')) (b1 : okB md1 am1 = true) (b2 : okB md2 am2 = true) (k1 : okB2 md1 am1 = true) (k2 : okB2 md2 am2 = true) {K : Int32 → Int32 → St → Prop} (hK : ∀ v σ', J2 D σ' → K v v σ') : CI y1 vs1 σ (fun v1 σ1 => CI y2 vs2 σ1 (fun v2 σ2 => K v1 v2 σ2)) := by
  refine (ag.and h1).imp fun v1 σ1 ⟨z1, I1, f1⟩ => ?_
  have J1 := J2_ex hJ ⟨I1, J_fr (okB_ok b1) f1 hJ.1.2⟩ (okB2_ok k1 f1)
  refine (CI.and z1 (h2 σ1 I1)).imp fun v2 σ2 ⟨e, I2, f2⟩ => ?_
  rw [e]
  exact hK _ _ (J2_ex J1 ⟨I2, J_fr (okB_ok b2) f2 J1.1.2⟩ (okB2_ok k2 f2))
theorem eq_cutOff {D : Nat → Nat → Prop} (hD : HD D) {σ : St} {a : Int32} (hJ : J2 D σ) : CI 74 [.ref 0, .int a] σ (fun v1 σ1 => CI 180 [.ref 39, .int a] σ1 (fun v2 _ => v2 = v1)) := ag_cutOff hD hJ (K := fun v1 v2 _ => v2 = v1) (fun _ => rfl)
noncomputable def wR (P : PS) (w land : Int32) (b c : Nat) (e : Int32) : Int32 := if ds P w c b = FARI then -1 else if e = 0 then Int32.ofNat (ds P w c b).toNat else if e = 1 then oI (nx P w (ds P w c) b) else gf land (wy P w (ds P w c) (ds P w c b).toNat b) 0
theorem s_69c {σ : St} {P : PS} {w e : Int32} {b c : Nat} {K : Int32 → St → Prop} (hI : Inv σ) (hx : XP σ P) (hm : MPl σ P) (hb : b < P.1 0) (hc : c < P.1 0) (hn : b ≠ c) (hK : ∀ σ', Inv σ' → (∀ k j, ¬ k = 28 → σ' k j = σ k j) → K (wR P w (σ 19 0) b c e) σ') : CV 38 [.ref 27, .int w, .int (Int32.ofNat c)] σ (fun σ4 => (if e = 0 then ((0 ≤ (Int32.ofNat b).toInt ∧ (Int32.ofNat b).toInt < 8) ∧ K (σ4 28 (Int32.toNatClampNeg (Int32.ofNat b))) σ4) else ((0 ≤ (Int32.ofNat b).toInt ∧ (Int32.ofNat b).toInt < 8) ∧ (if (σ4 28 (Int32.toNatClampNeg (Int32.ofNat b))) = (-1) then K (σ4 28 (Int32.toNatClampNeg (Int32.ofNat b))) σ4 else (if e = 1 then CI 41 [.ref 27, .int w, .int (Int32.ofNat b)] σ4 (fun v6 σ6 => K v6 σ6) else CI 43 [.ref 27, .int w, .int (σ4 19 0), .int (Int32.ofNat b)] σ4 (fun v5 σ5 => K v5 σ5)))))) := by
  have hP := PG_of hI hx.1 hm
  have h8 := hP.1.1
  refine m_38 hI hx hm hc fun σ4 I4 f4 F M => ?_
  have x4 := XP_ex (fun k j hk => f4 k j (by omega)) hx
  have bd : 0 ≤ (Int32.ofNat b).toInt ∧ (Int32.ofNat b).toInt < 8 := by rw [ti_of (by omega)]; omega
  have hK4 := hK σ4 I4 f4
  unfold wR at hK4
  rw [tc_of (by omega), f4 19 0 (by omega)]
  by_cases far : ds P w c b = FARI
  · rw [if_pos far] at hK4
    rw [(MF_n hP M hb).mpr far]
    split
    · exact ⟨bd, hK4⟩
    · exact ⟨bd, by rw [if_pos rfl]; exact hK4⟩
  · rw [if_neg far] at hK4
    have hr := F.1.1 b hb
    have lt : ds P w c b < FARI := by omega
    have g1 := (FP_good hP F).1 b hb lt
    have g2 := ((FP_good hP F).2 b hb hn lt).1
    have e28 : σ4 28 b = Int32.ofNat (ds P w c b).toNat := (MF_g hP M hb (by omega)).mpr (by omega)
    rw [e28]
    by_cases e0 : e = 0
    · rw [if_pos e0] at hK4 ⊢
      exact ⟨bd, hK4⟩
    · rw [if_neg e0] at hK4 ⊢
      refine ⟨bd, ?_⟩
      rw [if_neg (oI_ne (by omega))]
      by_cases e1 : e = 1
      · rw [if_pos e1] at hK4 ⊢
        exact s_41 x4 hP M hb (n := (ds P w c b).toNat - 1) (by omega) (by omega) hK4
      · rw [if_neg e1] at hK4 ⊢
        exact s_43 x4 hP F M hb (n := (ds P w c b).toNat) (by omega) (by omega) hK4
theorem hst_ex {σ σ' : St} (e : ∀ j, σ' 55 j = σ 55 j) : ∀ (t : List Nat) (k : Nat), hst σ k t → hst σ' k t
  | [], _, _ => trivial
  | _ :: t, k, h => ⟨by rw [e]; exact h.1, h.2.1, hst_ex e t (k + 1) h.2.2⟩
theorem s_170c {σ : St} {P : PS} {w e : Int32} {b c : Nat} {K : Int32 → St → Prop} (hI : Inv σ) (hb0 : PB P) (hm : MPl σ P) (hb : b < P.1 0) (hc : c < P.1 0) (hn : b ≠ c) (hK : ∀ σ', K (wR P w (σ 46 10) b c e) σ') : CI 142 [.ref 39, .int (Int32.ofNat b), .int (Int32.ofNat c), .int w] σ (fun v5 σ5 => (if 0 ≤ v5 then (if e = 0 then K v5 σ5 else (if e = 1 then K (σ5 55 0) σ5 else CI 143 [.ref 39, .int v5] σ5 (fun v6 σ6 => K v6 σ6))) else K (-1) σ5)) := by
  have hP := PG_of hI hb0 hm
  have h12 := hP.1.2.1
  have l0 : (0 : Int32).toInt = 0 := rfl
  refine m_142w hI hb0 hm hb hc (fun F far σ' f => ?_) (fun F n hn7 hd σ' f hs hl => ?_)
  · rw [if_neg (by decide)]
    have := hK σ'
    unfold wR at this
    rw [if_pos far] at this
    exact this
  · rw [if_pos (by rw [Int32.le_iff_toInt_le, l0, ti_of (by omega)]; omega)]
    have hK4 := hK σ'
    unfold wR at hK4
    have nf : ¬ ds P w c b = FARI := by unfold FARI; omega
    have en : (ds P w c b).toNat = n := by omega
    rw [if_neg nf, en] at hK4
    have g2 := ((FP_good hP F).2 b hb hn (by unfold FARI; omega)).1
    by_cases e0 : e = 0
    · rw [if_pos e0] at hK4 ⊢
      exact hK4
    · rw [if_neg e0] at hK4 ⊢
      by_cases e1 : e = 1
      · rw [if_pos e1] at hK4 ⊢
        obtain ⟨l, u, n1, n2, n3, n4, n5, n6⟩ := nx_s hP F hb hn (by unfold FARI; omega)
        obtain ⟨m, rfl⟩ : ∃ m, n = m + 1 := ⟨n - 1, by omega⟩
        rw [wy_s n1 n4] at hs
        rw [n1] at hK4
        rw [hs.1]
        exact hK4
      · rw [if_neg e1] at hK4 ⊢
        refine s_143 (by omega) hl hs ?_
        rw [f 46 10 (by omega) (by omega)]
        exact hK4
noncomputable def wA (P : PS) (S : Nat → Int32) (land a b c e : Int32) : Int32 := if (a = -1 ∨ inR (P.1 2) a) ∧ twoR (P.1 0) b c then (if 0 ≤ e ∧ e ≤ 2 then wR P (if a = -1 then land else S a.toNatClampNeg) land b.toNatClampNeg c.toNatClampNeg e else -1000000002) else -1000000001
theorem S69 {σ : St} {P : PS} {a b c e : Int32} (hI : Inv σ) (hx : XP σ P) (hm : MPl σ P) : CI 69 [.ref 0, .int a, .int b, .int c, .int e] σ (fun v σ' => Inv σ' ∧ (∀ k j, ¬ k = 28 → σ' k j = σ k j) ∧ v = wA P (σ 20) (σ 19 0) a b c e) := by
  have hM := hx.1.2.2.1
  refine w_69 ?_
  by_cases ha : a = -1
  · rw [if_pos ha]
    refine s_89 hx.2.1 hx.1.1 (ite10 (fun c2 => s_91 (ite10 (fun c3 => s_86 hx.2.2.2.1 hM (ite10 (fun c1 => ?_) (fun c1 => ?_))) (fun c3 => ⟨hI, fun _ _ _ => rfl, ?_⟩))) (fun c2 => ⟨hI, fun _ _ _ => rfl, ?_⟩))
    · exfalso
      rw [ha] at c1
      exact absurd c1.1 (by decide)
    · obtain ⟨kc, hkc, rfl, ec⟩ := inR_n c2.2.1
      obtain ⟨kb, hkb, rfl, eb⟩ := inR_n c2.1
      refine s_69c hI hx hm hkb hkc (fun z => c2.2.2 (by rw [z])) (fun σ' I' f => ⟨I', f, ?_⟩)
      unfold wA
      rw [if_pos ⟨Or.inl ha, c2⟩, if_pos c3, if_pos ha, ec, eb]
    · unfold wA
      rw [if_pos ⟨Or.inl ha, c2⟩, if_neg c3]
    · unfold wA
      rw [if_neg (fun z => c2 z.2)]
  · rw [if_neg ha]
    refine s_86 hx.2.2.2.1 hM (ite10 (fun c1 => s_89 hx.2.1 hx.1.1 (ite10 (fun c2 => s_91 (ite10 (fun c3 => s_86 hx.2.2.2.1 hM (ite10 (fun _ => ⟨by unfold inR at c1; omega, ?_⟩) (fun c1' => absurd c1 c1'))) (fun c3 => ⟨hI, fun _ _ _ => rfl, ?_⟩))) (fun c2 => ⟨hI, fun _ _ _ => rfl, ?_⟩))) (fun c1 => ⟨hI, fun _ _ _ => rfl, ?_⟩))
    · obtain ⟨kc, hkc, rfl, ec⟩ := inR_n c2.2.1
      obtain ⟨kb, hkb, rfl, eb⟩ := inR_n c2.1
      refine s_69c hI hx hm hkb hkc (fun z => c2.2.2 (by rw [z])) (fun σ' I' f => ⟨I', f, ?_⟩)
      unfold wA
      rw [if_pos ⟨Or.inr c1, c2⟩, if_pos c3, if_neg ha, ec, eb]
    · unfold wA
      rw [if_pos ⟨Or.inr c1, c2⟩, if_neg c3]
    · unfold wA
      rw [if_neg (fun z => c2 z.2)]
    · unfold wA
      rw [if_neg (fun z => z.1.elim ha c1)]
theorem S170 {σ : St} {P : PS} {a b c e : Int32} (hI : Inv σ) (hb0 : PB P) (hm : MPl σ P) : CI 170 [.ref 39, .int a, .int b, .int c, .int e] σ (fun v _ => v = wA P (σ 46) (σ 46 10) a b c e) := by
  have hM := hb0.2.2.1
  refine w_170 ?_
  by_cases ha : a = -1
  · rw [if_pos ha]
    refine s_113 hm.1 hb0.1 (ite10 (fun c2 => s_109 (b := 0) (c := 2) (ite10 (fun c3 => ?_) (fun c3 => ?_))) (fun c2 => ?_))
    · rw [if_pos ha]
      obtain ⟨kc, hkc, rfl, ec⟩ := inR_n c2.2.1
      obtain ⟨kb, hkb, rfl, eb⟩ := inR_n c2.1
      refine s_170c hI hb0 hm hkb hkc (fun z => c2.2.2 (by rw [z])) (fun σ' => ?_)
      unfold wA
      rw [if_pos ⟨Or.inl ha, c2⟩, if_pos c3, if_pos ha, ec, eb]
    · unfold wA
      rw [if_pos ⟨Or.inl ha, c2⟩, if_neg c3]
    · unfold wA
      rw [if_neg (fun z => c2 z.2)]
  · rw [if_neg ha]
    refine s_115 hm.2.2.1 hM (ite10 (fun c1 => s_113 hm.1 hb0.1 (ite10 (fun c2 => s_109 (b := 0) (c := 2) (ite10 (fun c3 => ?_) (fun c3 => ?_))) (fun c2 => ?_))) (fun c1 => ?_))
    · rw [if_neg ha]
      refine ⟨by unfold inR at c1; omega, ?_⟩
      obtain ⟨kc, hkc, rfl, ec⟩ := inR_n c2.2.1
      obtain ⟨kb, hkb, rfl, eb⟩ := inR_n c2.1
      refine s_170c hI hb0 hm hkb hkc (fun z => c2.2.2 (by rw [z])) (fun σ' => ?_)
      unfold wA
      rw [if_pos ⟨Or.inr c1, c2⟩, if_pos c3, if_neg ha, ec, eb]
    · unfold wA
      rw [if_pos ⟨Or.inr c1, c2⟩, if_neg c3]
    · unfold wA
      rw [if_neg (fun z => c2 z.2)]
    · unfold wA
      rw [if_neg (fun z => z.1.elim ha c1)]
/-- what maps show, what is true, alike -/
theorem sh_eq {D : Nat → Nat → Prop} (hD : HD D) {σ : St} {M : Nat} (hM : M ≤ 5) (hN : ∀ c, D M c → cls σ c = σ 46 (mu c)) {k : Nat} (hk : k < M) : σ 46 k = σ 20 k := by
  have := hN (5 + k) (hD.2 _ _ (Or.inr (Or.inr ⟨by omega, by omega, by omega⟩)))
  rw [cls5 (by omega), mu5] at this
  exact this.symm
theorem ld_eq {D : Nat → Nat → Prop} (hD : HD D) {σ : St} {M : Nat} (hN : ∀ c, D M c → cls σ c = σ 46 (mu c)) : σ 46 10 = σ 19 0 := (show σ 19 0 = σ 46 10 from hN 0 (hD.2 _ _ (Or.inl rfl))).symm
theorem eq_way {D : Nat → Nat → Prop} (hD : HD D) {σ : St} {a b c e : Int32} (hJ : J2 D σ) : CI 69 [.ref 0, .int a, .int b, .int c, .int e] σ (fun v1 σ1 => CI 170 [.ref 39, .int a, .int b, .int c, .int e] σ1 (fun v2 _ => v2 = v1)) := by
  obtain ⟨P, x, n, hx, hm, hu, hN, hi, hs, hb, hc⟩ := hJ.b
  refine (S69 hJ.1.1 hx hm).imp fun v1 σ1 ⟨I1, f1, e1⟩ => ?_
  refine (S170 I1 hx.1 (MPl_ex (fun k j hk => f1 k j (by omega)) hm)).imp fun v2 σ2 e2 => ?_
  have e46 : σ1 46 = σ 46 := funext fun j => f1 46 j (by omega)
  rw [e2, e1, e46, ld_eq hD hN]
  unfold wA
  by_cases c0 : (a = -1 ∨ inR (P.1 2) a) ∧ twoR (P.1 0) b c
  · rw [if_pos c0, if_pos c0]
    by_cases ha : a = -1
    · rw [if_pos ha, if_pos ha]
    · rw [if_neg ha, if_neg ha]
      obtain ⟨k, hk, -, ea⟩ := inR_n (c0.1.resolve_left ha)
      rw [ea, sh_eq hD hb.1 hN hk]
  · rw [if_neg c0, if_neg c0]
/-! walk -/
noncomputable def wkA (P : PS) (S : Nat → Int32) (land a b c : Int32) : Int32 := if inR (P.1 2) a ∧ twoR (P.1 0) b c then (if ds P (S a.toNatClampNeg) c.toNatClampNeg b.toNatClampNeg = FARI then -1000000003 else if gf land (wy P (S a.toNatClampNeg) (ds P (S a.toNatClampNeg) c.toNatClampNeg) (ds P (S a.toNatClampNeg) c.toNatClampNeg b.toNatClampNeg).toNat b.toNatClampNeg) 0 = -1 then 1 else 0) else -1000000001
theorem gf_c (land : Int32) : ∀ (t : List Nat) (k : Nat), k + t.length ≤ 8 → gf land t k = -1 ∨ 0 ≤ (gf land t k).toInt
  | [], _, _ => Or.inl rfl
  | l :: t, k, h => by
    rw [List.length_cons] at h
    show (bif bt land l then gf land t (k + 1) else Int32.ofNat k) = -1 ∨ 0 ≤ (bif bt land l then gf land t (k + 1) else Int32.ofNat k).toInt
    cases bt land l
    · rw [cond_false, ti_of (by omega)]; exact Or.inr (by omega)
    · rw [cond_true]; exact gf_c land t (k + 1) (by omega)
theorem S65 {σ : St} {P : PS} {x n : Nat} {a b c : Int32} (hI : Inv σ) (hx : XP σ P) (hm : MPl σ P) (hb : B2 σ (P.1 2) (P.1 1) x n) : CI 65 [.ref 0, .int a, .int b, .int c] σ (fun v σ' => (∀ k j, 39 ≤ k → σ' k j = σ k j) ∧ v = wkA P (σ 20) (σ 19 0) a b c) := by
  have hM := hb.1
  have h8 := hx.1.1
  have hP := PG_of hI hx.1 hm
  refine w_65 (s_86 hb.2.2.2.2.1 hM (ite10 (fun c1 => s_89 hx.2.1 h8 (ite10 (fun c2 => ?_) (fun c2 => ⟨fun _ _ _ => rfl, ?_⟩))) (fun c1 => ⟨fun _ _ _ => rfl, ?_⟩)))
  · refine ⟨by unfold inR at c1; omega, ?_⟩
    obtain ⟨kc, hkc, rfl, ec⟩ := inR_n c2.2.1
    obtain ⟨kb, hkb, rfl, eb⟩ := inR_n c2.1
    rw [eb]
    refine m_38 hI hx hm hkc fun σ3 I3 f3 F M => ⟨by rw [ti_of (by omega)]; omega, ?_⟩
    have ev : wkA P (σ 20) (σ 19 0) a (Int32.ofNat kb) (Int32.ofNat kc) = (if ds P (σ 20 a.toNatClampNeg) kc kb = FARI then -1000000003 else if gf (σ 19 0) (wy P (σ 20 a.toNatClampNeg) (ds P (σ 20 a.toNatClampNeg) kc) (ds P (σ 20 a.toNatClampNeg) kc kb).toNat kb) 0 = -1 then 1 else 0) := by
      unfold wkA
      rw [if_pos ⟨c1, c2⟩, ec, eb]
    by_cases far : ds P (σ 20 a.toNatClampNeg) kc kb = FARI
    · rw [if_pos ((MF_n hP M hkb).mpr far)]
      refine ⟨fun k j hk => f3 k j (by omega), ?_⟩
      rw [ev, if_pos far]
    · rw [if_neg (fun z => far ((MF_n hP M hkb).mp z))]
      rw [if_neg far] at ev
      have hb3 : B2 σ3 (P.1 2) (P.1 1) x n := by
        obtain ⟨q1, q2, q3, q4, q5, q6, q7, q8, q9⟩ := hb
        exact ⟨q1, q2, q3, q4, by rw [f3 11 2 (by omega)]; exact q5, by rw [f3 11 1 (by omega)]; exact q6, by rw [f3 22 0 (by omega)]; exact q7, by rw [f3 24 1 (by omega)]; exact q8, by rw [f3 24 2 (by omega)]; exact q9⟩
      refine s_9I I3 hb3 fun σ4 I4 r4 f4 => ?_
      have hr := F.1.1 kb hkb
      have g1 := (FP_good hP F).1 kb hkb (by omega)
      have x4 : XP σ4 P := XP_ex (fun k j hk => (f4 k j (by omega) (by omega)).trans (f3 k j (by omega))) hx
      have M4 : MF σ4 P (ds P (σ 20 a.toNatClampNeg) kc) := by
        have e28 : ∀ v, σ4 28 v = σ3 28 v := fun v => f4 28 v (by omega) (by omega)
        refine ⟨fun v hv => by rw [e28]; exact M.1 v hv, fun v hv => ?_⟩
        rw [← M.2 v hv]
        unfold DF
        rw [e28]
      refine s_43 x4 hP F M4 hkb (n := (ds P (σ 20 a.toNatClampNeg) kc kb).toNat) (by omega) (by omega) ?_
      rw [(f4 19 0 (by omega) (by omega)).trans (f3 19 0 (by omega))]
      have fr : ∀ k j, 39 ≤ k → σ4 k j = σ k j := fun k j hk => (f4 k j (by omega) (by omega)).trans (f3 k j (by omega))
      by_cases g : gf (σ 19 0) (wy P (σ 20 a.toNatClampNeg) (ds P (σ 20 a.toNatClampNeg) kc) (ds P (σ 20 a.toNatClampNeg) kc kb).toNat kb) 0 = -1
      · rw [if_pos g] at ev ⊢
        exact ⟨fr, ev.symm⟩
      · rw [if_neg g] at ev ⊢
        exact ⟨fun k j hk => by rw [s2_ne _ _ (by omega)]; exact fr k j hk, ev.symm⟩
  · unfold wkA
    rw [if_neg (fun z => c2 z.2)]
  · unfold wkA
    rw [if_neg (fun z => c1 z.1)]
theorem S161 {σ : St} {P : PS} {n : Nat} {a b c : Int32} (hI : Inv σ) (hb0 : PB P) (hm : MPl σ P) (hc : C2 σ (P.1 2) (P.1 1) n) : CI 161 [.ref 39, .int a, .int b, .int c] σ (fun v _ => v = wkA P (σ 46) (σ 46 10) a b c) := by
  have hM := hc.1
  have h8 := hb0.1
  have l0 : (0 : Int32).toInt = 0 := rfl
  refine w_161 (s_115 hc.2.2.2.1 hM (ite10 (fun c1 => s_113 hm.1 h8 (ite10 (fun c2 => ?_) (fun c2 => ?_))) (fun c1 => ?_)))
  · refine ⟨by unfold inR at c1; omega, ?_⟩
    obtain ⟨kc, hkc, rfl, ec⟩ := inR_n c2.2.1
    obtain ⟨kb, hkb, rfl, eb⟩ := inR_n c2.1
    have ev : wkA P (σ 46) (σ 46 10) a (Int32.ofNat kb) (Int32.ofNat kc) = (if ds P (σ 46 a.toNatClampNeg) kc kb = FARI then -1000000003 else if gf (σ 46 10) (wy P (σ 46 a.toNatClampNeg) (ds P (σ 46 a.toNatClampNeg) kc) (ds P (σ 46 a.toNatClampNeg) kc kb).toNat kb) 0 = -1 then 1 else 0) := by
      unfold wkA
      rw [if_pos ⟨c1, c2⟩, ec, eb]
    refine m_142w hI hb0 hm hkb hkc (fun F far σ' f => ?_) (fun F m hm7 hd σ3 f3 h3 hl => ?_)
    · rw [if_neg (by decide), ev, if_pos far]
    · rw [if_pos (by rw [Int32.le_iff_toInt_le, l0, ti_of (by omega)]; omega)]
      have nf : ¬ ds P (σ 46 a.toNatClampNeg) kc kb = FARI := by unfold FARI; omega
      have en : (ds P (σ 46 a.toNatClampNeg) kc kb).toNat = m := by omega
      rw [if_neg nf, en] at ev
      refine s_153 hc.2.2.1 ((f3 39 32 (by omega) (by omega)).trans hc.2.2.2.2.2) fun σ4 r4 f4 => ?_
      refine s_143 (by omega) hl (hst_ex (fun j => f4 55 j (by omega) (by omega)) _ _ h3) ?_
      rw [(f4 46 10 (by omega) (by omega)).trans (f3 46 10 (by omega) (by omega))]
      have g := gf_c (σ 46 10) (wy P (σ 46 a.toNatClampNeg) (ds P (σ 46 a.toNatClampNeg) kc) m kb) 0 (by omega)
      by_cases q : gf (σ 46 10) (wy P (σ 46 a.toNatClampNeg) (ds P (σ 46 a.toNatClampNeg) kc) m kb) 0 = -1
      · rw [if_pos q] at ev
        rw [q, if_pos (by decide)]
        exact ev.symm
      · rw [if_neg q] at ev
        have := g.resolve_left q
        rw [if_neg (by rw [Int32.lt_iff_toInt_lt, l0]; omega)]
        split
        · exact ev.symm
        · exact ev.symm
  · unfold wkA
    rw [if_neg (fun z => c2 z.2)]
  · unfold wkA
    rw [if_neg (fun z => c1 z.1)]
theorem wkA_eq {P : PS} {S S' : Nat → Int32} {land a b c : Int32} (h : ∀ k, k < P.1 2 → S k = S' k) : wkA P S land a b c = wkA P S' land a b c := by
  unfold wkA
  by_cases c0 : inR (P.1 2) a ∧ twoR (P.1 0) b c
  · obtain ⟨k, hk, -, ea⟩ := inR_n c0.1
    rw [if_pos c0, if_pos c0, ea, h k hk]
  · rw [if_neg c0, if_neg c0]
theorem eq_walk {D : Nat → Nat → Prop} (hD : HD D) {σ : St} {a b c : Int32} (hJ : J2 D σ) (j1 : CI 65 [.ref 0, .int a, .int b, .int c] σ (fun _ σ' => J σ')) : CI 65 [.ref 0, .int a, .int b, .int c] σ (fun v1 σ1 => CI 161 [.ref 39, .int a, .int b, .int c] σ1 (fun v2 _ => v2 = v1)) := by
  obtain ⟨P, x, n, hx, hm, hu, hN, hi, hs, hb, hc⟩ := hJ.b
  refine (j1.and (S65 hJ.1.1 hx hm hb)).imp fun v1 σ1 ⟨J1, f1, e1⟩ => ?_
  refine (S161 J1.1 hx.1 (MPl_ex (fun k j hk => f1 k j (by omega)) hm) (C2_39 hc f1)).imp fun v2 σ2 e2 => ?_
  have e46 : σ1 46 = σ 46 := funext fun j => f1 46 j (by omega)
  rw [e2, e1, e46, ld_eq hD hN]
  exact wkA_eq fun k hk => sh_eq hD hb.1 hN hk
