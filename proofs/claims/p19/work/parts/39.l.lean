/-! keep, goBack; agreement -/
theorem s_88 {σ : St} {a : Int32} {K : Int32 → St → Prop} (hK : K (if inR 2 a then 1 else 0) σ) : CI 88 [.ref 0, .int a] σ K := by
  refine w_88 ?_
  have l0 : (0 : Int32).toInt = 0 := rfl
  have l2 : (2 : Int32).toInt = 2 := rfl
  simp only [Int32.lt_iff_toInt_lt, Int32.le_iff_toInt_le, l0, l2]
  by_cases c : inR 2 a
  · rw [if_pos c] at hK
    unfold inR at c
    rw [if_neg (by omega), if_neg (by omega)]; exact hK
  · rw [if_neg c] at hK
    unfold inR at c
    split
    · exact hK
    · rw [if_pos (by omega)]; exact hK
theorem two01 {a : Int32} (h : inR 2 a) : a = 0 ∨ a = 1 := by
  have c : a.toInt = 0 ∨ a.toInt = 1 := by unfold inR at h; omega
  rcases c with c | c
  · exact Or.inl (ti_inj c)
  · exact Or.inr (ti_inj c)
theorem s_47 {σ : St} {a : Int32} {K : St → Prop} (ha : a = 0 ∨ a = 1) (hK : ∀ σ', (∀ k j, ¬ k = 26 → σ' k j = σ k j) → K σ') : CV 47 [.ref 25, .int a, .ref 19] σ K := by
  refine w_47_25 ?_
  rcases ha with rfl | rfl
  · rw [if_neg (by decide)]
    split
    · refine ⟨by decide, by decide, by decide, by decide, by decide, by decide, by decide, hK _ fun k j hk => ?_⟩
      rw [sr_ne _ _ hk, sr_ne _ _ hk, s2_ne _ _ (fun z => hk z.1), s2_ne _ _ (fun z => hk z.1), s2_ne _ _ (fun z => hk z.1), s2_ne _ _ (fun z => hk z.1), s2_ne _ _ (fun z => hk z.1)]
    · exact hK _ fun _ _ _ => rfl
  · rw [if_neg (by decide)]
    split
    · refine ⟨by decide, by decide, by decide, by decide, by decide, by decide, by decide, hK _ fun k j hk => ?_⟩
      rw [sr_ne _ _ hk, sr_ne _ _ hk, s2_ne _ _ (fun z => hk z.1), s2_ne _ _ (fun z => hk z.1), s2_ne _ _ (fun z => hk z.1), s2_ne _ _ (fun z => hk z.1), s2_ne _ _ (fun z => hk z.1)]
    · exact hK _ fun _ _ _ => rfl
theorem s_48 {σ : St} {a : Int32} {K : St → Prop} (ha : a = 0 ∨ a = 1) (hK : ∀ σ', K σ') : CV 48 [.ref 25, .int a, .ref 19] σ K := by
  refine w_48_25 ?_
  rcases ha with rfl | rfl
  · rw [if_neg (by decide)]
    split
    · exact ⟨by decide, by decide, by decide, by decide, by decide, by decide, by decide, hK _⟩
    · exact hK _
  · rw [if_neg (by decide)]
    split
    · exact ⟨by decide, by decide, by decide, by decide, by decide, by decide, by decide, hK _⟩
    · exact hK _
theorem s_82 {σ : St} {a : Int32} : CI 82 [.ref 0, .int a] σ (fun v σ' => (¬ inR 2 a ∧ v = -1000000001 ∧ σ' 0 11 = σ 0 11) ∨ (a = 0 ∧ v = 1 ∧ σ' 0 11 = σ 0 11 ||| 1) ∨ (a = 1 ∧ v = 1 ∧ σ' 0 11 = σ 0 11 ||| 2)) := by
  refine w_82 (s_88 (ite10 (fun c => ?_) (fun c => Or.inl ⟨c, rfl, rfl⟩)))
  have h := two01 c
  refine s_47 h fun σ2 f2 => w_93 ?_
  rw [if_neg (by decide), f2 0 11 (by decide)]
  refine w_11 (Or.inr ?_)
  rcases h with rfl | rfl
  · exact Or.inl ⟨rfl, rfl, rfl⟩
  · exact Or.inr ⟨rfl, rfl, rfl⟩
theorem s_83 {σ : St} {a : Int32} : CI 83 [.ref 0, .int a] σ (fun v _ => (¬ inR 2 a ∧ v = -1000000001) ∨ (inR 2 a ∧ ush (σ 0 11) a &&& 1 = 0 ∧ v = -1000000003) ∨ (inR 2 a ∧ ¬ ush (σ 0 11) a &&& 1 = 0 ∧ v = 1)) := by
  refine w_83 (s_88 (ite10 (fun c => w_92 ?_) (fun c => Or.inl ⟨c, rfl⟩)))
  by_cases d : ush (σ 0 11) a &&& 1 = 0
  · rw [if_pos d]; exact Or.inr (Or.inl ⟨c, d, rfl⟩)
  · rw [if_neg d]
    exact s_48 (two01 c) fun σ' => w_11 (Or.inr (Or.inr ⟨c, d, rfl⟩))
theorem m15 {a : Int32} (ha : a = 0 ∨ a = 1) {i : Nat} (hi : i < 15) : 0 ≤ ((15 * a) + Int32.ofNat i).toInt ∧ ((15 * a) + Int32.ofNat i).toInt < 30 := by
  have h15 : (15 * a).toInt = 0 ∨ (15 * a).toInt = 15 := by
    rcases ha with rfl | rfl
    · exact Or.inl rfl
    · exact Or.inr rfl
  rw [ti_add (by rw [ti_of (by omega)]; omega) (by rw [ti_of (by omega)]; omega), ti_of (by omega)]
  omega
theorem s_189l {a : Int32} {K : Int32 → St → Prop} (ha : a = 0 ∨ a = 1) : ∀ (d i : Nat) {σ : St}, i + d = 14 → (∀ σ', (∀ k j, ¬ k = 61 → σ' k j = σ k j) → K 1 (s2 (s2 (s2 σ' 61 (Int32.toNatClampNeg ((15 * a) + 14)) (σ' 39 12)) 62 (Int32.toNatClampNeg a) (vp_nar .boolean 1)) 39 32 0)) → PI 189 15 [some (.ref 39), some (.int a), some (.int (Int32.ofNat i))] [] σ K := by
  have l14 : (14 : Int32).toInt = 14 := rfl
  intro d
  induction d with
  | zero =>
    intro i σ hi hK
    refine w_189_15 ?_
    rw [if_pos (by rw [Int32.le_iff_toInt_le, l14, ti_of (by omega)]; omega)]
    refine ⟨m15 ha (i := 14) (by omega), ?_, hK σ (fun _ _ _ => rfl)⟩
    rcases ha with rfl | rfl <;> decide
  | succ d ih =>
    intro i σ hi hK
    refine w_189_15 ?_
    rw [if_neg (by rw [Int32.le_iff_toInt_le, l14, ti_of (by omega)]; omega)]
    refine ⟨by rw [ti_of (by omega)]; omega, m15 ha (by omega), ?_⟩
    rw [of_s]
    exact ih (i + 1) (by omega) (fun σ' g => hK σ' (fun k j hk => (g k j hk).trans (s2_ne _ _ (fun e => hk e.1))))
theorem s_189 {σ : St} {a : Int32} : CI 189 [.ref 39, .int a] σ (fun v σ' => (¬ inR 2 a ∧ v = -1000000001 ∧ σ' 62 0 = σ 62 0 ∧ σ' 62 1 = σ 62 1) ∨ (a = 0 ∧ v = 1 ∧ σ' 62 0 = 1 ∧ σ' 62 1 = σ 62 1) ∨ (a = 1 ∧ v = 1 ∧ σ' 62 0 = σ 62 0 ∧ σ' 62 1 = 1)) := by
  refine w_189 (s_109 (b := 0) (c := 1) ?_)
  have l0 : (0 : Int32).toInt = 0 := rfl
  have l1 : (1 : Int32).toInt = 1 := rfl
  have eq : (0 ≤ a ∧ a ≤ 1) ↔ inR 2 a := by
    rw [Int32.le_iff_toInt_le, Int32.le_iff_toInt_le, l0, l1]
    unfold inR
    omega
  refine ite10 (fun c => ?_) (fun c => Or.inl ⟨fun z => c (eq.mpr z), rfl, rfl, rfl⟩)
  have ha := two01 (eq.mp c)
  refine s_189l ha 14 0 (by omega) fun σ' g => Or.inr ?_
  rcases ha with rfl | rfl
  · exact Or.inl ⟨rfl, rfl, rfl, g 62 1 (by decide)⟩
  · exact Or.inr ⟨rfl, rfl, g 62 0 (by decide), rfl⟩
theorem s_190l {a : Int32} {K : Int32 → St → Prop} (ha : a = 0 ∨ a = 1) (hK : ∀ σ', K 1 σ') : ∀ (d i : Nat) {σ : St}, i + d = 14 → PI 190 28 [some (.ref 39), some (.int a), some (.int (Int32.ofNat i))] [] σ K := by
  have l14 : (14 : Int32).toInt = 14 := rfl
  intro d
  induction d with
  | zero =>
    intro i σ hi
    refine w_190_28 ?_
    rw [if_pos (by rw [Int32.le_iff_toInt_le, l14, ti_of (by omega)]; omega)]
    exact ⟨m15 ha (i := 14) (by omega), hK _⟩
  | succ d ih =>
    intro i σ hi
    refine w_190_28 ?_
    rw [if_neg (by rw [Int32.le_iff_toInt_le, l14, ti_of (by omega)]; omega)]
    refine ⟨m15 ha (by omega), by rw [ti_of (by omega)]; omega, ?_⟩
    rw [of_s]
    exact ih (i + 1) (by omega)
theorem s_190 {σ : St} {a : Int32} : CI 190 [.ref 39, .int a] σ (fun v _ => (¬ inR 2 a ∧ v = -1000000001) ∨ (inR 2 a ∧ σ 62 a.toNatClampNeg = 0 ∧ v = -1000000003) ∨ (inR 2 a ∧ ¬ σ 62 a.toNatClampNeg = 0 ∧ v = 1)) := by
  refine w_190 (s_109 (b := 0) (c := 1) ?_)
  have l0 : (0 : Int32).toInt = 0 := rfl
  have l1 : (1 : Int32).toInt = 1 := rfl
  have eq : (0 ≤ a ∧ a ≤ 1) ↔ inR 2 a := by
    rw [Int32.le_iff_toInt_le, Int32.le_iff_toInt_le, l0, l1]
    unfold inR
    omega
  refine ite10 (fun c => ?_) (fun c => Or.inl ⟨fun z => c (eq.mpr z), rfl⟩)
  have hr := eq.mp c
  have ha := two01 hr
  refine ⟨by unfold inR at hr; omega, ?_⟩
  by_cases d : σ 62 a.toNatClampNeg = 0
  · rw [if_pos d]; exact Or.inr (Or.inl ⟨hr, d, rfl⟩)
  · rw [if_neg d]
    exact s_190l ha (fun σ' => Or.inr (Or.inr ⟨hr, d, rfl⟩)) 14 0 (by omega)
/-! agreement -/
theorem ag_fault {σ : St} (hJ : J σ) {K : Int32 → Int32 → St → Prop} (hK : ∀ v σ', J σ' → K v v σ') : CI 56 [.ref 0] σ (fun v1 σ1 => CI 133 [.ref 39] σ1 (fun v2 σ2 => K v1 v2 σ2)) := by
  refine w_56 (w_133 ?_)
  rw [← hJ.2.2.2.1]
  exact hK _ _ hJ
theorem ag_journey {σ : St} {a b : Int32} (hJ : J σ) (h1 : CI 77 [.ref 0, .int a, .int b] σ (fun _ σ' => Inv σ' ∧ FrM [(29, 0)] [30, 31] σ σ')) (h2 : ∀ σ1, Inv σ1 → CI 184 [.ref 39, .int a, .int b] σ1 (fun _ σ' => Inv σ' ∧ FrM [(39, 34)] [57, 58] σ1 σ')) {K : Int32 → Int32 → St → Prop} (hK : ∀ v σ', J σ' → K v v σ') : CI 77 [.ref 0, .int a, .int b] σ (fun v1 σ1 => CI 184 [.ref 39, .int a, .int b] σ1 (fun v2 σ2 => K v1 v2 σ2)) := by
  obtain ⟨hI, hB⟩ := hJ
  obtain ⟨P, hx, hm⟩ := hB.2.1
  refine (h1.and (s_77 hI hx.2.1 hx.1.1)).imp fun v1 σ1 ⟨⟨I1, f1⟩, z1⟩ => ?_
  have e0 : σ1 39 0 = Int32.ofNat (P.1 0) := (fr_k f1 (by simp) (by simp)).trans hm.1
  refine ((h2 σ1 I1).and (s_184 I1 e0 hx.1.1)).imp fun v2 σ2 ⟨⟨I2, f2⟩, z2⟩ => ?_
  rw [show σ1 39 34 = σ 29 0 from (fr_k f1 (by simp) (by simp)).trans hB.2.2.2.1.symm] at z2
  obtain ⟨e1, e2⟩ := z1.ag z2
  rw [e1]
  refine hK _ _ ⟨I2, JB_mod (fun k j hD n1 n2 n3 n4 => (fr_k f2 (by simp; omega) (by simp; unfold Dp at hD; omega)).trans (fr_k f1 (by simp; omega) (by simp; unfold Dp at hD; omega))) hB ?_ ?_ ?_⟩
  · rw [e2]; exact fr_k f2 (by simp) (by simp)
  · rw [fr_k f2 (k := 29) (j := 1) (by simp) (by simp), fr_k f1 (k := 29) (j := 1) (by simp) (by simp), fr_k f2 (k := 39) (j := 37) (by simp) (by simp), fr_k f1 (k := 39) (j := 37) (by simp) (by simp)]
    exact hB.2.2.2.2.1
  · unfold JK
    rw [fr_k f2 (k := 0) (j := 11) (by simp) (by simp), fr_k f1 (k := 0) (j := 11) (by simp) (by simp), fr_k f2 (k := 62) (j := 0) (by simp) (by simp), fr_k f1 (k := 62) (j := 0) (by simp) (by simp), fr_k f2 (k := 62) (j := 1) (by simp) (by simp), fr_k f1 (k := 62) (j := 1) (by simp) (by simp)]
    exact hB.2.2.2.2.2
theorem ag_write {σ : St} {a b : Int32} (hJ : J σ) (h1 : CI 78 [.ref 0, .int a, .int b] σ (fun _ σ' => Inv σ' ∧ FrM [(29, 1)] [32, 33] σ σ')) (h2 : ∀ σ1, Inv σ1 → CI 185 [.ref 39, .int a, .int b] σ1 (fun _ σ' => Inv σ' ∧ FrM [(39, 37)] [59, 60] σ1 σ')) {K : Int32 → Int32 → St → Prop} (hK : ∀ v σ', J σ' → K v v σ') : CI 78 [.ref 0, .int a, .int b] σ (fun v1 σ1 => CI 185 [.ref 39, .int a, .int b] σ1 (fun v2 σ2 => K v1 v2 σ2)) := by
  obtain ⟨hI, hB⟩ := hJ
  obtain ⟨P, hx, hm⟩ := hB.2.1
  refine (h1.and (s_78 hI hx.2.2.2.1 hx.1.2.2.1)).imp fun v1 σ1 ⟨⟨I1, f1⟩, z1⟩ => ?_
  have e0 : σ1 39 6 = Int32.ofNat (P.1 2) := (fr_k f1 (by simp) (by simp)).trans hm.2.2.1
  refine ((h2 σ1 I1).and (s_185 I1 e0 hx.1.2.2.1)).imp fun v2 σ2 ⟨⟨I2, f2⟩, z2⟩ => ?_
  rw [show σ1 39 37 = σ 29 1 from (fr_k f1 (by simp) (by simp)).trans hB.2.2.2.2.1.symm] at z2
  obtain ⟨e1, e2⟩ := z1.ag z2
  rw [e1]
  refine hK _ _ ⟨I2, JB_mod (fun k j hD n1 n2 n3 n4 => (fr_k f2 (by simp; omega) (by simp; unfold Dp at hD; omega)).trans (fr_k f1 (by simp; omega) (by simp; unfold Dp at hD; omega))) hB ?_ ?_ ?_⟩
  · rw [fr_k f2 (k := 29) (j := 0) (by simp) (by simp), fr_k f1 (k := 29) (j := 0) (by simp) (by simp), fr_k f2 (k := 39) (j := 34) (by simp) (by simp), fr_k f1 (k := 39) (j := 34) (by simp) (by simp)]
    exact hB.2.2.2.1
  · rw [e2]; exact fr_k f2 (by simp) (by simp)
  · unfold JK
    rw [fr_k f2 (k := 0) (j := 11) (by simp) (by simp), fr_k f1 (k := 0) (j := 11) (by simp) (by simp), fr_k f2 (k := 62) (j := 0) (by simp) (by simp), fr_k f1 (k := 62) (j := 0) (by simp) (by simp), fr_k f2 (k := 62) (j := 1) (by simp) (by simp), fr_k f1 (k := 62) (j := 1) (by simp) (by simp)]
    exact hB.2.2.2.2.2
theorem ag_tear {σ : St} (hJ : J σ) (h1 : CI 79 [.ref 0] σ (fun _ σ' => Inv σ' ∧ FrM [(29, 0), (29, 1)] [] σ σ')) (h2 : ∀ σ1, Inv σ1 → CI 186 [.ref 39] σ1 (fun _ σ' => Inv σ' ∧ FrM [(39, 34), (39, 37)] [] σ1 σ')) {K : Int32 → Int32 → St → Prop} (hK : ∀ v σ', J σ' → K v v σ') : CI 79 [.ref 0] σ (fun v1 σ1 => CI 186 [.ref 39] σ1 (fun v2 σ2 => K v1 v2 σ2)) := by
  obtain ⟨hI, hB⟩ := hJ
  refine (h1.and s_79).imp fun v1 σ1 ⟨⟨I1, f1⟩, z1⟩ => ?_
  refine ((h2 σ1 I1).and s_186).imp fun v2 σ2 ⟨⟨I2, f2⟩, z2⟩ => ?_
  obtain ⟨rfl, z3, z4⟩ := z1
  obtain ⟨rfl, y3, y4⟩ := z2
  rw [fr_k f1 (k := 39) (j := 34) (by simp) (by simp), fr_k f1 (k := 39) (j := 37) (by simp) (by simp), ← hB.2.2.2.1, ← hB.2.2.2.2.1]
  refine hK _ _ ⟨I2, JB_mod (fun k j hD n1 n2 n3 n4 => (fr_k f2 (by simp; omega) (by simp)).trans (fr_k f1 (by simp; omega) (by simp))) hB ?_ ?_ ?_⟩
  · rw [fr_k f2 (k := 29) (j := 0) (by simp) (by simp), z3, y3]
  · rw [fr_k f2 (k := 29) (j := 1) (by simp) (by simp), z4, y4]
  · unfold JK
    rw [fr_k f2 (k := 0) (j := 11) (by simp) (by simp), fr_k f1 (k := 0) (j := 11) (by simp) (by simp), fr_k f2 (k := 62) (j := 0) (by simp) (by simp), fr_k f1 (k := 62) (j := 0) (by simp) (by simp), fr_k f2 (k := 62) (j := 1) (by simp) (by simp), fr_k f1 (k := 62) (j := 1) (by simp) (by simp)]
    exact hB.2.2.2.2.2
theorem ag_keep {σ : St} {a : Int32} (hJ : J σ) (h1 : CI 82 [.ref 0, .int a] σ (fun _ σ' => Inv σ' ∧ FrM [(0, 11), (24, 2)] [26] σ σ')) (h2 : ∀ σ1, Inv σ1 → CI 189 [.ref 39, .int a] σ1 (fun _ σ' => Inv σ' ∧ FrM [(39, 32)] [61, 62] σ1 σ')) {K : Int32 → Int32 → St → Prop} (hK : ∀ v σ', J σ' → K v v σ') : CI 82 [.ref 0, .int a] σ (fun v1 σ1 => CI 189 [.ref 39, .int a] σ1 (fun v2 σ2 => K v1 v2 σ2)) := by
  obtain ⟨hI, hB⟩ := hJ
  refine (h1.and s_82).imp fun v1 σ1 ⟨⟨I1, f1⟩, z1⟩ => ?_
  refine ((h2 σ1 I1).and s_189).imp fun v2 σ2 ⟨⟨I2, f2⟩, z2⟩ => ?_
  rw [fr_k f1 (k := 62) (j := 0) (by simp) (by simp), fr_k f1 (k := 62) (j := 1) (by simp) (by simp)] at z2
  have fin : JK σ2 → JB σ2 := fun hk => JB_mod (fun k j hD n1 n2 n3 n4 => (fr_k f2 (by simp; unfold Dp at hD; omega) (by simp; unfold Dp at hD; omega)).trans (fr_k f1 (by simp; unfold Dp at hD; omega) (by simp; unfold Dp at hD; omega))) hB (by
    rw [fr_k f2 (k := 29) (j := 0) (by simp) (by simp), fr_k f1 (k := 29) (j := 0) (by simp) (by simp), fr_k f2 (k := 39) (j := 34) (by simp) (by simp), fr_k f1 (k := 39) (j := 34) (by simp) (by simp)]; exact hB.2.2.2.1) (by
    rw [fr_k f2 (k := 29) (j := 1) (by simp) (by simp), fr_k f1 (k := 29) (j := 1) (by simp) (by simp), fr_k f2 (k := 39) (j := 37) (by simp) (by simp), fr_k f1 (k := 39) (j := 37) (by simp) (by simp)]; exact hB.2.2.2.2.1) hk
  have e11 : σ2 0 11 = σ1 0 11 := fr_k f2 (by simp) (by simp)
  have hk := hB.2.2.2.2.2
  have key : JK σ2 ∧ v2 = v1 := by
    rcases z1 with ⟨n1, rfl, w1⟩ | ⟨rfl, rfl, w1⟩ | ⟨rfl, rfl, w1⟩
    · rcases z2 with ⟨-, rfl, y1, y2⟩ | ⟨rfl, -⟩ | ⟨rfl, -⟩
      · refine ⟨?_, rfl⟩
        unfold JK
        rw [e11, w1, y1, y2]; exact hk
      · exact absurd (show inR 2 0 by decide) n1
      · exact absurd (show inR 2 1 by decide) n1
    · rcases z2 with ⟨n2, -⟩ | ⟨-, rfl, y1, y2⟩ | ⟨e, -⟩
      · exact absurd (show inR 2 0 by decide) n2
      · refine ⟨?_, rfl⟩
        unfold JK
        rw [e11, w1, y1, y2]
        rcases hk with ⟨k1, k2, k3⟩ | ⟨k1, k2, k3⟩ | ⟨k1, k2, k3⟩ | ⟨k1, k2, k3⟩ <;> rw [k1, k3] <;> decide
      · exact absurd e (by decide)
    · rcases z2 with ⟨n2, -⟩ | ⟨e, -⟩ | ⟨-, rfl, y1, y2⟩
      · exact absurd (show inR 2 1 by decide) n2
      · exact absurd e (by decide)
      · refine ⟨?_, rfl⟩
        unfold JK
        rw [e11, w1, y1, y2]
        rcases hk with ⟨k1, k2, k3⟩ | ⟨k1, k2, k3⟩ | ⟨k1, k2, k3⟩ | ⟨k1, k2, k3⟩ <;> rw [k1, k2] <;> decide
  rw [key.2]
  exact hK _ _ ⟨I2, fin key.1⟩
theorem ag_goBack {σ : St} {a : Int32} (hJ : J σ) (h1 : CI 83 [.ref 0, .int a] σ (fun _ σ' => J σ' ∧ σ' 62 0 = σ 62 0 ∧ σ' 62 1 = σ 62 1)) (h2 : ∀ σ1, J σ1 → CI 190 [.ref 39, .int a] σ1 (fun _ σ' => J σ')) {K : Int32 → Int32 → St → Prop} (hK : ∀ v σ', J σ' → K v v σ') : CI 83 [.ref 0, .int a] σ (fun v1 σ1 => CI 190 [.ref 39, .int a] σ1 (fun v2 σ2 => K v1 v2 σ2)) := by
  have hk := hJ.2.2.2.2.2.2
  refine (h1.and s_83).imp fun v1 σ1 ⟨⟨J1, g1, g2⟩, z1⟩ => ?_
  refine ((h2 σ1 J1).and s_190).imp fun v2 σ2 ⟨J2, z2⟩ => ?_
  have key : v2 = v1 := by
    by_cases c : inR 2 a
    · have z1' := z1.resolve_left (fun z => z.1 c)
      have z2' := z2.resolve_left (fun z => z.1 c)
      have eq : (ush (σ 0 11) a &&& 1 = 0) ↔ (σ1 62 a.toNatClampNeg = 0) := by
        rcases two01 c with rfl | rfl
        · show _ ↔ σ1 62 0 = 0
          rw [g1]
          rcases hk with ⟨k1, k2, k3⟩ | ⟨k1, k2, k3⟩ | ⟨k1, k2, k3⟩ | ⟨k1, k2, k3⟩ <;> rw [k1, k2] <;> decide
        · show _ ↔ σ1 62 1 = 0
          rw [g2]
          rcases hk with ⟨k1, k2, k3⟩ | ⟨k1, k2, k3⟩ | ⟨k1, k2, k3⟩ | ⟨k1, k2, k3⟩ <;> rw [k1, k3] <;> decide
      rcases z1' with ⟨-, a1, rfl⟩ | ⟨-, a1, rfl⟩ <;> rcases z2' with ⟨-, a2, rfl⟩ | ⟨-, a2, rfl⟩
      · rfl
      · exact absurd (eq.mp a1) a2
      · exact absurd (eq.mpr a2) a1
      · rfl
    · rcases z1 with ⟨-, rfl⟩ | ⟨h, -⟩ | ⟨h, -⟩
      · rcases z2 with ⟨-, rfl⟩ | ⟨h, -⟩ | ⟨h, -⟩
        · rfl
        · exact absurd h c
        · exact absurd h c
      · exact absurd h c
      · exact absurd h c
  rw [key]
  exact hK _ _ J2
