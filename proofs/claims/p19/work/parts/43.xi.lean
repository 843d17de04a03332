/-! ways: how far, one and only one -/
theorem adjS {Ln : Nat} {ex ey : Nat → Nat} {hb : Nat → Prop} {x y : Nat} : Adj Ln ex ey hb x y → Adj Ln ex ey hb y x := fun ⟨l, a1, a2, a3⟩ => ⟨l, a1, a2, a3.symm⟩
theorem far_le {P Ln b : Nat} {ex ey : Nat → Nat} {hb : Nat → Prop} {D E : Nat → Int} (hD : Jn P Ln b ex ey hb D) (iD : In P Ln ex ey hb (P : Int) D) (hE : Jn P Ln b ex ey hb E) (iE : In P Ln ex ey hb (P : Int) E) (hP : (P : Int) < FARI) : ∀ v, v < P → E v ≤ D v := by
  obtain ⟨g1, g2⟩ := far_good hD iD hP
  have key : ∀ (n : Nat) (v : Nat), v < P → D v = (n : Int) → (n : Int) < FARI → E v ≤ D v := by
    intro n
    induction n with
    | zero =>
      intro v hv e hf
      by_cases c : v = b
      · rw [c, hE.2.1, hD.2.1]; exact Int.le_refl _
      · have := (g2 v hv c (by omega)).1; omega
    | succ n ih =>
      intro v hv e hf
      by_cases c : v = b
      · rw [c, hE.2.1, hD.2.1]; exact Int.le_refl _
      · obtain ⟨h1, u, u1, u2, u3⟩ := g2 v hv c (by omega)
        have h2 := g1 v hv (by omega)
        have h3 := ih u u1 (by omega) (by omega)
        have h4 := iE u v u1 hv (adjS u2) (by omega)
        omega
  intro v hv
  by_cases c : D v < FARI
  · have h0 := (hD.1 v hv).1
    exact key (D v).toNat v hv (by omega) (by omega)
  · have := (hE.1 v hv).2
    omega
theorem far_eq {P Ln b : Nat} {ex ey : Nat → Nat} {hb : Nat → Prop} {D E : Nat → Int} (hD : Jn P Ln b ex ey hb D) (iD : In P Ln ex ey hb (P : Int) D) (hE : Jn P Ln b ex ey hb E) (iE : In P Ln ex ey hb (P : Int) E) (hP : (P : Int) < FARI) {v : Nat} (hv : v < P) : E v = D v := by
  have h1 := far_le hD iD hE iE hP v hv
  have h2 := far_le hE iE hD iD hP v hv
  omega
/-! spreading, layer by layer -/
def spD (D : Nat → Int) (x y : Nat) (g : Int) : Nat → Int := if D x = g ∧ D y = FARI then upI D y (g + 1) else D
theorem sp_le {D : Nat → Int} {x y : Nat} {g : Int} (hg : g + 1 ≤ FARI) (v : Nat) : spD D x y g v ≤ D v := by
  unfold spD
  split
  · rename_i c
    unfold upI
    split
    · rename_i e; rw [e]; omega
    · exact Int.le_refl _
  · exact Int.le_refl _
theorem sp_g {D : Nat → Int} {x y : Nat} {g : Int} {v : Nat} (h : spD D x y g v = g) : D v = g := by
  unfold spD at h
  split at h
  · unfold upI at h
    split at h
    · omega
    · exact h
  · exact h
theorem sp_near {D : Nat → Int} {x y : Nat} {g : Int} (hx : D x = g) (hy : D y ≤ FARI) (hg : g + 1 < FARI) : spD D x y g y < FARI := by
  unfold spD
  by_cases c : D y = FARI
  · rw [if_pos ⟨hx, c⟩]
    unfold upI
    rw [if_pos rfl]
    exact hg
  · rw [if_neg (fun z => c z.2)]
    omega
def Wr (P Ln b : Nat) (ex ey : Nat → Nat) (hb : Nat → Prop) (g : Int) (D0 : Nat → Int) (l : Nat) (D : Nat → Int) : Prop := Jn P Ln b ex ey hb D ∧ (∀ v, v < P → D v < FARI → D v ≤ g + 1) ∧ Rd P ex ey hb g D0 l D
theorem Wr.sp {P Ln b : Nat} {ex ey : Nat → Nat} {hb : Nat → Prop} {g : Int} {D0 D : Nat → Int} {l : Nat} (h : Wr P Ln b ex ey hb g D0 l D) (hE : ∀ l, l < Ln → ex l < P ∧ ey l < P) (hl : l ≤ Ln) (hI : In P Ln ex ey hb g D0) (hg : g + 1 < FARI) {x y : Nat} (hx : x < P) (hy : y < P) (ha : Adj Ln ex ey hb x y) : Wr P Ln b ex ey hb g D0 l (spD D x y g) := by
  by_cases c : D x = g ∧ D y = FARI
  · have e : spD D x y g = rx D y x := by
      unfold spD rx
      rw [if_pos c, if_pos (by omega), c.1]
    rw [e]
    obtain ⟨h1, h2, h3⟩ := h
    refine ⟨h1.rlx hy hx (adjS ha), fun v hv hf => ?_, h3.rlx hE hl hI hy hx (adjS ha)⟩
    by_cases ev : v = y
    · rw [ev, rx_self, if_pos (by omega), c.1]
      exact Int.le_refl _
    · rw [rx_ne ev] at hf ⊢
      exact h2 v hv hf
  · have e : spD D x y g = D := by unfold spD; rw [if_neg c]
    rw [e]
    exact h
theorem Wr.line {P Ln b : Nat} {ex ey : Nat → Nat} {hb : Nat → Prop} {g : Int} {D0 D : Nat → Int} {l : Nat} (h : Wr P Ln b ex ey hb g D0 l D) (hE : ∀ l, l < Ln → ex l < P ∧ ey l < P) (hl : l < Ln) (hI : In P Ln ex ey hb g D0) (hg : g + 1 < FARI) (hbl : hb l) : Wr P Ln b ex ey hb g D0 (l + 1) (spD (spD D (ex l) (ey l) g) (ey l) (ex l) g) := by
  have hl2 := hE l hl
  have ha : Adj Ln ex ey hb (ex l) (ey l) := ⟨l, hl, hbl, Or.inl ⟨rfl, rfl⟩⟩
  have w1 := h.sp hE (Nat.le_of_lt hl) hI hg hl2.1 hl2.2 ha
  have w2 := w1.sp hE (Nat.le_of_lt hl) hI hg hl2.2 hl2.1 (adjS ha)
  refine ⟨w2.1, w2.2.1, w2.2.2.1, w2.2.2.2.1, fun l' hl' hb' => ?_⟩
  rcases Nat.lt_or_ge l' l with q | q
  · exact w2.2.2.2.2 l' q hb'
  · have e : l' = l := by omega
    subst e
    have low : ∀ x y, x < P → y < P → Adj Ln ex ey hb x y → spD (spD D (ex l') (ey l') g) (ey l') (ex l') g x < g → spD (spD D (ex l') (ey l') g) (ey l') (ex l') g y ≤ spD (spD D (ex l') (ey l') g) (ey l') (ex l') g x + 1 := fun x y hx hy a lt => by
      have e1 := w2.2.2.2.1 x hx (by omega)
      have e2 := hI x y hx hy a (by omega)
      have e3 := w2.2.2.1 y hy
      omega
    have le1 : ∀ v, spD (spD D (ex l') (ey l') g) (ey l') (ex l') g v ≤ spD D (ex l') (ey l') g v := fun v => sp_le (by omega) v
    refine ⟨fun k => ?_, fun k => ?_⟩
    · by_cases c : spD (spD D (ex l') (ey l') g) (ey l') (ex l') g (ex l') = g
      · have n := sp_near (sp_g (sp_g c)) (h.1.1 _ hl2.2).2 hg
        have n2 := le1 (ey l')
        have := w2.2.1 _ hl2.2 (by omega)
        omega
      · exact low _ _ hl2.1 hl2.2 ha (by omega)
    · by_cases c : spD (spD D (ex l') (ey l') g) (ey l') (ex l') g (ey l') = g
      · have n := sp_near (sp_g c) (w1.1.1 _ hl2.1).2 hg
        have := w2.2.1 _ hl2.1 (by omega)
        omega
      · exact low _ _ hl2.2 hl2.1 (adjS ha) (by omega)
theorem Wr.skip {P Ln b : Nat} {ex ey : Nat → Nat} {hb : Nat → Prop} {g : Int} {D0 D : Nat → Int} {l : Nat} (h : Wr P Ln b ex ey hb g D0 l D) (hbl : ¬ hb l) : Wr P Ln b ex ey hb g D0 (l + 1) D := ⟨h.1, h.2.1, h.2.2.skip hbl⟩
/-! measure -/
def DF (σ : St) : Nat → Int := fun a => if σ 28 a = -1 then FARI else (σ 28 a).toInt
def BD (σ : St) : Prop := ∀ v, v < 8 → σ 28 v = -1 ∨ (0 ≤ (σ 28 v).toInt ∧ (σ 28 v).toInt ≤ 8)
theorem df_g {σ : St} (h : BD σ) {x g : Nat} (hx : x < 8) (hg : g ≤ 8) : (σ 28 x = Int32.ofNat g) ↔ DF σ x = (g : Int) := by
  unfold DF
  by_cases c : σ 28 x = -1
  · rw [if_pos c, c]
    refine ⟨fun z => ?_, fun z => ?_⟩
    · have := congrArg Int32.toInt z
      rw [ti_of (by omega)] at this
      have l : (-1 : Int32).toInt = -1 := rfl
      omega
    · unfold FARI at z; omega
  · rw [if_neg c]
    refine ⟨fun z => by rw [z, ti_of (by omega)], fun z => ti_inj (by rw [z, ti_of (by omega)])⟩
theorem df_n {σ : St} (h : BD σ) {x : Nat} (hx : x < 8) : (σ 28 x = -1) ↔ DF σ x = FARI := by
  unfold DF
  by_cases c : σ 28 x = -1
  · rw [if_pos c]; exact ⟨fun _ => rfl, fun _ => c⟩
  · rw [if_neg c]
    have := (h x hx).resolve_left c
    refine ⟨fun z => absurd z c, fun z => ?_⟩
    unfold FARI at z
    omega
theorem df_put {σ : St} {y g : Nat} (hg : g ≤ 8) : DF (s2 σ 28 y (Int32.ofNat g)) = upI (DF σ) y (g : Int) := by
  funext a
  unfold DF upI
  by_cases e : a = y
  · rw [if_pos e, e, s2_self, if_neg ?_, ti_of (by omega)]
    intro z
    have := congrArg Int32.toInt z
    rw [ti_of (by omega)] at this
    have l : (-1 : Int32).toInt = -1 := rfl
    omega
  · rw [if_neg e, s2_ne _ _ (fun z => e z.2)]
theorem bd_put {σ : St} {y g : Nat} (h : BD σ) (hg : g ≤ 8) : BD (s2 σ 28 y (Int32.ofNat g)) := fun v hv => by
  by_cases e : v = y
  · rw [e, s2_self, ti_of (by omega)]; exact Or.inr (by omega)
  · rw [s2_ne _ _ (fun z => e z.2)]; exact h v hv
theorem s_40 {σ : St} {x : Nat} {K : Int32 → St → Prop} (hx : x < 8) (hK : K (σ 28 x) σ) : CI 40 [.ref 27, .int (Int32.ofNat x)] σ K := by
  have l0 : (0 : Int32).toInt = 0 := rfl
  have l8 : (8 : Int32).toInt = 8 := rfl
  refine w_40 ?_
  rw [if_neg (by rw [Int32.lt_iff_toInt_lt, ti_of (by omega), l0]; omega), if_neg (by rw [Int32.le_iff_toInt_le, ti_of (by omega), l8]; omega), tc_of (by omega)]
  exact ⟨by rw [ti_of (by omega)]; omega, hK⟩
theorem s_39 {σ : St} {x y g : Nat} {K : Int32 → St → Prop} (hB : BD σ) (hx : x < 8) (hy : y < 8) (hg : g ≤ 7) (hK : ∀ v σ', (v = 0 ∧ σ' = σ ∨ v = 1) → (∀ k j, ¬ k = 28 → σ' k j = σ k j) → BD σ' → DF σ' = spD (DF σ) x y (g : Int) → K v σ') : CI 39 [.ref 27, .int (Int32.ofNat x), .int (Int32.ofNat y), .int (Int32.ofNat g)] σ K := by
  have no : ¬ (DF σ x = (g : Int) ∧ DF σ y = FARI) → K 0 σ := fun h => hK 0 σ (Or.inl ⟨rfl, rfl⟩) (fun _ _ _ => rfl) hB (by unfold spD; rw [if_neg h])
  refine w_39 (s_40 hx ?_)
  by_cases c1 : σ 28 x = Int32.ofNat g
  · rw [if_pos c1]
    refine s_40 hy ?_
    by_cases c2 : σ 28 y = -1
    · rw [if_pos c2]
      have ry : (0 : Int32) ≤ Int32.ofNat y ∧ Int32.ofNat y ≤ 7 := by
        have l0 : (0 : Int32).toInt = 0 := rfl
        have l7 : (7 : Int32).toInt = 7 := rfl
        rw [Int32.le_iff_toInt_le, Int32.le_iff_toInt_le, ti_of (by omega), l0, l7]
        omega
      refine s_91 (ite10 (fun _ => ?_) (fun z => absurd ry z))
      rw [tc_of (by omega), of_s]
      refine ⟨by rw [ti_of (by omega)]; omega, hK 1 _ (Or.inr rfl) (fun k j h => s2_ne _ _ (fun z => h z.1)) (bd_put hB (by omega)) ?_⟩
      rw [df_put (by omega)]
      unfold spD
      rw [if_pos ⟨(df_g hB hx (by omega)).mp c1, (df_n hB hy).mp c2⟩]
      rfl
    · rw [if_neg c2]
      exact no (fun z => c2 ((df_n hB hy).mpr z.2))
  · rw [if_neg c1]
    exact no (fun z => c1 ((df_g hB hx (by omega)).mpr z.1))
theorem s_193_28l {a : Int32} {τ : St} {K : St → Prop} (hK : ∀ σ', (∀ k j, ¬ k = 28 → σ' k j = τ k j) → (∀ j, j < 8 → σ' 28 j = a) → K σ') : ∀ (d i : Nat) {σ : St}, i + d = 8 → (∀ k j, ¬ k = 28 → σ k j = τ k j) → (∀ j, j < i → σ 28 j = a) → PV 193 5 [some (.ref 28), some (.int a), some (.int (Int32.ofNat i)), some (.int 8)] [] σ K := by
  have l8 : (8 : Int32).toInt = 8 := rfl
  intro d
  induction d with
  | zero =>
    intro i σ hi hf hr
    refine w_193_28_5 ?_
    rw [if_pos (by rw [Int32.le_iff_toInt_le, ti_of (by omega), l8]; omega)]
    exact hK σ hf (fun j hj => hr j (by omega))
  | succ d ih =>
    intro i σ hi hf hr
    refine w_193_28_5 ?_
    rw [if_neg (by rw [Int32.le_iff_toInt_le, ti_of (by omega), l8]; omega), tc_of (by omega), of_s]
    refine ⟨by rw [ti_of (by omega)]; omega, ih (i + 1) (by omega) (fun k j hk => by rw [s2_ne _ _ (fun z => hk z.1)]; exact hf k j hk) (fun j hj => ?_)⟩
    show (if j = i then a else σ 28 j) = a
    by_cases c : j = i
    · rw [if_pos c]
    · rw [if_neg c]; exact hr j (by omega)
theorem inB_b {w : Int32} {l : Nat} (hl : l < 32) : inB w l ↔ b01 w l = 1 := by
  unfold inB b01
  rw [bit_s hl]
/-- what measure is asked in: plan and places alike -/
def MG (τ : St) (P Ln : Nat) : Prop := P ≤ 8 ∧ Ln ≤ 12 ∧ τ 11 1 = Int32.ofNat Ln ∧ (∀ l, l < Ln → τ 12 l = Int32.ofNat (eN τ 40 l) ∧ τ 13 l = Int32.ofNat (eN τ 41 l)) ∧ ∀ l, l < Ln → eN τ 40 l < P ∧ eN τ 41 l < P
theorem or3 {x y z : Int32} (hx : x = 0 ∨ x = 1) (hy : y = 0 ∨ y = 1) (hz : z = 0 ∨ z = 1) : ((x ||| y) ||| z = 0 ∨ (x ||| y) ||| z = 1) ∧ ((x ||| y) ||| z = 0 → x = 0 ∧ y = 0 ∧ z = 0) := by
  rcases hx with rfl | rfl <;> rcases hy with rfl | rfl <;> rcases hz with rfl | rfl <;> decide
theorem s_38l {τ : St} {P Ln bN g : Nat} {w b : Int32} {D0 : Nat → Int} {K : St → Prop} (hG : MG τ P Ln) (hg : g ≤ 7) (hIn : In P Ln (eN τ 40) (eN τ 41) (inB w) (g : Int) D0)
    (cont : ∀ (x3 : Int32) (σ : St) (o : Option Value), (∀ k j, ¬ k = 28 → σ k j = τ k j) → BD σ → Wr P Ln bN (eN τ 40) (eN τ 41) (inB w) (g : Int) D0 Ln (DF σ) → (x3 = 0 → DF σ = D0) → PV 38 30 [some (.ref 27), some (.int w), some (.int b), some (.int x3), some (.int (Int32.ofNat (g + 1))), o] [] σ K) :
    ∀ (d l : Nat) (x3 : Int32) {σ : St}, l + d = Ln → (∀ k j, ¬ k = 28 → σ k j = τ k j) → BD σ → Wr P Ln bN (eN τ 40) (eN τ 41) (inB w) (g : Int) D0 l (DF σ) → (x3 = 0 ∨ x3 = 1) → (x3 = 0 → DF σ = D0) → PV 38 46 [some (.ref 27), some (.int w), some (.int b), some (.int x3), some (.int (Int32.ofNat g)), some (.int (Int32.ofNat l))] [] σ K := by
  obtain ⟨hP, hL, e11, eA, hE⟩ := hG
  have hgF : (g : Int) + 1 < FARI := by unfold FARI; omega
  intro d
  induction d with
  | zero =>
    intro l x3 σ hl hf hB hW h01 h0
    refine w_38_46 ?_
    have el : l = Ln := by omega
    rw [(hf 11 1 (by omega)).trans e11, if_pos (by rw [Int32.le_iff_toInt_le, ti_of (by omega), ti_of (by omega)]; omega), of_s]
    rw [el] at hW
    exact cont x3 σ _ hf hB hW h0
  | succ d ih =>
    intro l x3 σ hl hf hB hW h01 h0
    refine w_38_46 ?_
    rw [(hf 11 1 (by omega)).trans e11, if_neg (by rw [Int32.le_iff_toInt_le, ti_of (by omega), ti_of (by omega)]; omega)]
    refine s_92 (by omega) ?_
    by_cases c : b01 w l = 1
    · rw [if_pos c]
      have hbl := (inB_b (by omega)).mpr c
      obtain ⟨a1, a2⟩ := eA l (by omega)
      obtain ⟨p1, p2⟩ := hE l (by omega)
      refine ⟨by rw [ti_of (by omega)]; omega, ?_⟩
      rw [tc_of (by omega), (hf 12 l (by omega)).trans a1, (hf 13 l (by omega)).trans a2]
      refine s_39 hB (by omega) (by omega) hg fun v2 σ2 h2 f2 B2' D2 => ?_
      rw [(f2 12 l (by omega)).trans ((hf 12 l (by omega)).trans a1), (f2 13 l (by omega)).trans ((hf 13 l (by omega)).trans a2)]
      refine s_39 B2' (by omega) (by omega) hg fun v3 σ3 h3 f3 B3 D3 => ?_
      have o := or3 h01 (y := v2) (by rcases h2 with ⟨z, -⟩ | z; exact Or.inl z; exact Or.inr z) (z := v3) (by rcases h3 with ⟨z, -⟩ | z; exact Or.inl z; exact Or.inr z)
      rw [of_s]
      refine ih (l + 1) _ (by omega) (fun k j h => ((f3 k j h).trans (f2 k j h)).trans (hf k j h)) B3 ?_ o.1 (fun z => ?_)
      · rw [D3, D2]; exact hW.line hE (by omega) hIn hgF hbl
      · obtain ⟨z1, z2, z3⟩ := o.2 z
        have q2 : σ2 = σ := by
          rcases h2 with ⟨-, q⟩ | q
          · exact q
          · rw [q] at z2; exact absurd z2 (by decide)
        have q3 : σ3 = σ2 := by
          rcases h3 with ⟨-, q⟩ | q
          · exact q
          · rw [q] at z3; exact absurd z3 (by decide)
        rw [q3, q2]
        exact h0 z1
    · rw [if_neg c, of_s]
      exact ih (l + 1) x3 (by omega) hf hB (hW.skip (fun z => c ((inB_b (by omega)).mp z))) h01 h0
theorem s_38r {τ : St} {P Ln bN : Nat} {w b : Int32} {K : St → Prop} (hG : MG τ P Ln) (hK : ∀ σ', (∀ k j, ¬ k = 28 → σ' k j = τ k j) → BD σ' → Jn P Ln bN (eN τ 40) (eN τ 41) (inB w) (DF σ') → In P Ln (eN τ 40) (eN τ 41) (inB w) (P : Int) (DF σ') → K σ') :
    ∀ (d g : Nat) (x3 : Int32) (o : Option Value) {σ : St}, g + d = 8 → (∀ k j, ¬ k = 28 → σ k j = τ k j) → BD σ → Jn P Ln bN (eN τ 40) (eN τ 41) (inB w) (DF σ) → In P Ln (eN τ 40) (eN τ 41) (inB w) (g : Int) (DF σ) → (∀ v, v < P → DF σ v < FARI → DF σ v ≤ (g : Int)) → (x3 = 0 → In P Ln (eN τ 40) (eN τ 41) (inB w) (P : Int) (DF σ)) → PV 38 30 [some (.ref 27), some (.int w), some (.int b), some (.int x3), some (.int (Int32.ofNat g)), o] [] σ K := by
  have l8 : (8 : Int32).toInt = 8 := rfl
  have hP := hG.1
  intro d
  induction d with
  | zero =>
    intro g x3 o σ hg hf hB hJ hI hb h0
    refine w_38_30 ?_
    by_cases c : x3 = 0
    · rw [if_pos c]; exact hK σ hf hB hJ (h0 c)
    · rw [if_neg c, if_pos (by rw [Int32.le_iff_toInt_le, ti_of (by omega), l8]; omega)]
      exact hK σ hf hB hJ (fun x y hx hy ha hk => hI x y hx hy ha (by omega))
  | succ d ih =>
    intro g x3 o σ hg hf hB hJ hI hb h0
    refine w_38_30 ?_
    by_cases c : x3 = 0
    · rw [if_pos c]; exact hK σ hf hB hJ (h0 c)
    · rw [if_neg c, if_neg (by rw [Int32.le_iff_toInt_le, ti_of (by omega), l8]; omega)]
      refine s_38l hG (by omega) hI (fun x3' σ' o' f' B' W' z' => ?_) Ln 0 0 (by omega) hf hB ⟨hJ, fun v hv hF => by have := hb v hv hF; omega, Rd.start⟩ (Or.inl rfl) (fun _ => rfl)
      have hI' := W'.2.2.done
      refine ih (g + 1) x3' o' (by omega) f' B' W'.1 (by rw [Int.natCast_add]; exact hI') (fun v hv hF => by have := W'.2.1 v hv hF; omega) (fun z => ?_)
      intro x y hx hy ha hk
      have e := z' z
      have h1 : DF σ' x ≤ (g : Int) := by
        have : DF σ' x < FARI := by unfold FARI; omega
        rw [e] at this ⊢
        exact hb x hx this
      exact hI' x y hx hy ha (by omega)
theorem s_38 {τ : St} {P Ln bN : Nat} {w : Int32} {K : St → Prop} (hG : MG τ P Ln) (hb : bN < P) (hK : ∀ σ', (∀ k j, ¬ k = 28 → σ' k j = τ k j) → BD σ' → Jn P Ln bN (eN τ 40) (eN τ 41) (inB w) (DF σ') → In P Ln (eN τ 40) (eN τ 41) (inB w) (P : Int) (DF σ') → K σ') : CV 38 [.ref 27, .int w, .int (Int32.ofNat bN)] τ K := by
  have l0 : (0 : Int32).toInt = 0 := rfl
  have l8 : (8 : Int32).toInt = 8 := rfl
  have hP := hG.1
  refine w_38 (w_193_28 (s_193_28l (τ := τ) (fun σ1 f1 r1 => ?_) 8 0 (by omega) (fun _ _ _ => rfl) (fun j hj => absurd hj (Nat.not_lt_zero j))))
  rw [if_neg (by rw [Int32.lt_iff_toInt_lt, ti_of (by omega), l0]; omega), if_neg (by rw [Int32.le_iff_toInt_le, ti_of (by omega), l8]; omega), tc_of (by omega)]
  refine ⟨by rw [ti_of (by omega)]; omega, ?_⟩
  have B1 : BD σ1 := fun v hv => Or.inl (r1 v hv)
  have eD : ∀ v, v < P → DF (s2 σ1 28 bN 0) v = if v = bN then 0 else FARI := fun v hv => by
    have : DF (s2 σ1 28 bN 0) = upI (DF σ1) bN ((0 : Nat) : Int) := df_put (σ := σ1) (y := bN) (g := 0) (by decide)
    rw [this]
    unfold upI
    by_cases c : v = bN
    · rw [if_pos c, if_pos c]; rfl
    · rw [if_neg c, if_neg c]
      unfold DF
      rw [if_pos (r1 v (by omega))]
  refine s_38r hG hK 8 0 1 none (by omega) (fun k j h => by rw [s2_ne _ _ (fun z => h z.1)]; exact f1 k j h) (bd_put (g := 0) B1 (by omega)) ⟨fun v hv => ?_, ?_, fun v hv hne hF => ?_⟩ (fun x y hx hy ha hk => ?_) (fun v hv hF => ?_) (fun z => absurd z (by decide))
  · rw [eD v hv]; unfold FARI; split <;> omega
  · rw [eD bN hb, if_pos rfl]
  · rw [eD v hv, if_neg hne] at hF; exact absurd hF (by omega)
  · rw [eD x hx] at hk; unfold FARI at hk; split at hk <;> omega
  · rw [eD v hv] at hF ⊢
    by_cases c : v = bN
    · rw [if_pos c]; omega
    · rw [if_neg c] at hF; exact absurd hF (by omega)
/-! findWay: whether there is one -/
set_option maxRecDepth 20000 in
theorem pw_findWay2 {σ0 : St} {a b w : Int32} {P Ln : Nat} {Q : Option Value → St → Prop} (hI : Inv σ0) (ha0 : 0 ≤ a.toInt) (haP : a.toInt < (σ0 39 0).toInt) (hb0 : 0 ≤ b.toInt) (hbP : b.toInt < (σ0 39 0).toInt) (hP : (σ0 39 0).toInt = (P : Int)) (hL : (σ0 39 1).toInt = (Ln : Int))
    (cont : ∀ (σ : St) (r : Int32) (D : Nat → Int), (∀ k j : Nat, k ≠ 54 → k ≠ 55 → σ k j = σ0 k j) → Jn P Ln b.toInt.toNat (eN σ0 40) (eN σ0 41) (inB w) D → In P Ln (eN σ0 40) (eN σ0 41) (inB w) (P : Int) D → -1 ≤ r.toInt → r.toInt ≤ 7 → (0 ≤ r.toInt ↔ D a.toInt.toNat < FARI) → Q (some (.int r)) σ) : PW none 142 0 (ent 142 [.ref 39, .int a, .int b, .int w]) [] σ0 Q := by
  have hLn : Ln ≤ 12 := by have := (hI.1 39 1).2; have e : (iv 39 1).2 = 12 := rfl; omega
  have hPn : P ≤ 8 := by have := (hI.1 39 0).2; have e : (iv 39 0).2 = 8 := rfl; omega
  refine PW.runs hw_142 rfl 3 (q := (0, [some (.ref 39), some (.int a), some (.int b), some (.int w), none, none, none], [], σ0)) (q' := (3, [some (.ref 39), some (.int a), some (.int b), some (.int w), none, none, none], [.int w, .int b, .ref 39], σ0)) rfl ?_
  refine PW.callV (b := 39) (vs := [.int b, .int w]) (rest := []) (ins_l hw_142 rfl) rfl rfl rfl (Nat.le_of_ble_eq_true rfl) (Nat.le_of_ble_eq_true rfl) ?_
  refine pw_findFar hI hP hL hb0 (by omega) (fun σ hF hJ hIn => ?_)
  have e40 : ∀ j, σ 40 j = σ0 40 j := fun j => hF 40 j (by decide)
  have e41 : ∀ j, σ 41 j = σ0 41 j := fun j => hF 41 j (by decide)
  have x40 : eN σ 40 = eN σ0 40 := by funext j; unfold eN; rw [e40]
  have x41 : eN σ 41 = eN σ0 41 := by funext j; unfold eN; rw [e41]
  have h40 : ∀ j, 0 ≤ (σ 40 j).toInt ∧ (σ 40 j).toInt ≤ 7 := fun j => by rw [e40]; exact hI.1 40 j
  have h41 : ∀ j, 0 ≤ (σ 41 j).toInt ∧ (σ 41 j).toInt ≤ 7 := fun j => by rw [e41]; exact hI.1 41 j
  have ha8 : inN a 8 = true := (idx_in ha0 (by omega)).1
  have ac : a.toNatClampNeg = a.toInt.toNat := rfl
  obtain ⟨f1, f2⟩ := far_good hJ hIn (by unfold FARI; omega)
  refine PW.runs hw_142 rfl 3 (q := (6, [some (.ref 39), some (.int a), some (.int b), some (.int w), none, none, none], [], σ)) (q' := (11, [some (.ref 39), some (.int a), some (.int b), some (.int w), none, none, none], [.int a, .ref 54], σ)) rfl ?_
  refine PW.iald (n := 8) (ins_l hw_142 rfl) rfl ha8 ?_
  refine PW.runs hw_142 rfl 1 (q := (12, [some (.ref 39), some (.int a), some (.int b), some (.int w), none, none, none], [.int (σ 54 a.toNatClampNeg)], σ)) (q' := (14, [some (.ref 39), some (.int a), some (.int b), some (.int w), none, none, none], [.int 1000000, .int (σ 54 a.toNatClampNeg)], σ)) rfl ?_
  refine PW.icm (t := 19) (ins_l hw_142 rfl) rfl (fun c1 => ?_) (fun c1 => ?_)
  · simp only [cnd, decide_eq_true_eq, Int32.lt_iff_toInt_lt] at c1
    have hfa : DD σ a.toInt.toNat < FARI := by rw [ac] at c1; exact c1
    have g0 := (hJ.1 a.toInt.toNat (by omega)).1
    have g1 := f1 a.toInt.toNat (by omega) hfa
    refine PW.runs hw_142 rfl 4 (q := (19, [some (.ref 39), some (.int a), some (.int b), some (.int w), none, none, none], [], σ)) (q' := (25, wLv a b w a 0 none, [], σ)) rfl ?_
    refine pw_wo (σ1 := σ) (P := P) (Ln := Ln) (top := DD σ a.toInt.toNat) h40 h41 hPn hLn (fun l hl => ?_) hb0 (by rw [x40, x41]; exact hJ) f1 (by rw [x40, x41]; exact f2) (by omega) (fun σ' n hF' hn0 hn7 => cont σ' n (DD σ) (fun k j k1 k2 => (hF' k j k2).trans (hF k j k1)) hJ hIn (by omega) hn7 ⟨fun _ => hfa, fun _ => hn0⟩) (DD σ a.toInt.toNat).toNat a 0 none σ (fun _ _ _ => rfl) ha0 (by omega) (by omega) (by omega) (by decide) (by show (0 : Int) + _ = _; omega)
    rw [x40, x41]
    have q : (σ0 40 l).toInt < (σ0 39 0).toInt ∧ (σ0 41 l).toInt < (σ0 39 0).toInt := hI.2 l (by show (l : Int) < (σ0 39 1).toInt; omega)
    have y1 := eN_t (σ := σ0) (k := 40) (l := l) (hI.1 40 l).1
    have y2 := eN_t (σ := σ0) (k := 41) (l := l) (hI.1 41 l).1
    omega
  · simp only [cnd, decide_eq_false_iff_not, Int32.lt_iff_toInt_lt] at c1
    refine PW.runs hw_142 rfl 1 (q := (17, [some (.ref 39), some (.int a), some (.int b), some (.int w), none, none, none], [], σ)) (q' := (18, [some (.ref 39), some (.int a), some (.int b), some (.int w), none, none, none], [.int (-1)], σ)) rfl ?_
    exact PW.iret (ins_l hw_142 rfl) (Or.inl rfl) (cont σ (-1) (DD σ) (fun k j k1 _ => hF k j k1) hJ hIn (by decide) (by decide) ⟨fun h => absurd h (by decide), fun h => absurd (by rw [ac]; exact h) c1⟩)
/-! walk -/
theorem RC_pre {x n : Nat} {σ τ σ' : St} (h : RC x n τ σ') (e : ∀ k j, (19 ≤ k ∧ k ≤ 21) ∨ k = 23 → τ k j = σ k j) : RC x n σ σ' := by
  refine ⟨h.1, h.2.1, fun j => ?_⟩
  rw [h.2.2 j, cls_ex (σ := σ) (fun k j h1 h2 => e k j (by omega)), e 23 j (by omega)]
theorem RM_pre {n : Nat} {σ τ σ' : St} (h : RMm n τ σ') (e : ∀ k j, k = 46 ∨ k = 56 → τ k j = σ k j) : RMm n σ σ' := RM_ex h (fun j => e 46 j (by omega)) (fun j => e 56 j (by omega))
theorem MG_of {σ : St} {P : PS} (hI : Inv σ) (hx : XP σ P) (hm : MPl σ P) : MG σ (P.1 0) (P.1 1) := by
  refine ⟨hx.1.1, hx.1.2.1, hx.2.2.1, fun l hl => ?_, fun l hl => ?_⟩
  · obtain ⟨a1, a2, -⟩ := hx.2.2.2.2.2.1 l hl
    obtain ⟨b1, b2, -⟩ := hm.2.2.2.2.1 l hl
    rw [a1, a2, ← b1, ← b2]
    exact ⟨(of_ti (hI.1 40 l).1).symm, (of_ti (hI.1 41 l).1).symm⟩
  · have h8 := hx.1.1
    have h12 := hx.1.2.1
    have e0 : (σ 39 0).toInt = (P.1 0 : Int) := by rw [hm.1, ti_of (by omega)]
    have e1 : (σ 39 1).toInt = (P.1 1 : Int) := by rw [hm.2.1, ti_of (by omega)]
    have q : (σ 40 l).toInt < (σ 39 0).toInt ∧ (σ 41 l).toInt < (σ 39 0).toInt := hI.2 l (by show (l : Int) < (σ 39 1).toInt; omega)
    have y1 := eN_t (σ := σ) (k := 40) (l := l) (hI.1 40 l).1
    have y2 := eN_t (σ := σ) (k := 41) (l := l) (hI.1 41 l).1
    omega
/-- there is a way -/
def Rch (σ : St) (P Ln : Nat) (w : Int32) (a b : Nat) : Prop := ∃ D, Jn P Ln b (eN σ 40) (eN σ 41) (inB w) D ∧ In P Ln (eN σ 40) (eN σ 41) (inB w) (P : Int) D ∧ D a < FARI
theorem Rch_of {σ : St} {P Ln : Nat} {w : Int32} {a b : Nat} {D : Nat → Int} (hP : P ≤ 8) (ha : a < P) (hJ : Jn P Ln b (eN σ 40) (eN σ 41) (inB w) D) (hI : In P Ln (eN σ 40) (eN σ 41) (inB w) (P : Int) D) : Rch σ P Ln w a b ↔ D a < FARI := by
  refine ⟨fun ⟨E, e1, e2, e3⟩ => ?_, fun h => ⟨D, hJ, hI, h⟩⟩
  have hF : (P : Int) < FARI := by unfold FARI; omega
  rw [← far_eq hJ hI e1 e2 hF ha]
  exact e3
theorem m_142 {σ : St} {P : PS} {a b : Nat} {w : Int32} {K : Int32 → St → Prop} (hI : Inv σ) (hb : PB P) (hm : MPl σ P) (ha : a < P.1 0) (hb2 : b < P.1 0) (hK : ∀ r σ', Inv σ' → (∀ k j, ¬ k = 54 → ¬ k = 55 → σ' k j = σ k j) → -1 ≤ r.toInt → r.toInt ≤ 7 → (0 ≤ r.toInt ↔ Rch σ (P.1 0) (P.1 1) w a b) → K r σ') : CI 142 [.ref 39, .int (Int32.ofNat a), .int (Int32.ofNat b), .int w] σ K := by
  have h8 := hb.1
  have h12 := hb.2.1
  have e0 : (σ 39 0).toInt = (P.1 0 : Int) := by rw [hm.1, ti_of (by omega)]
  have e1 : (σ 39 1).toInt = (P.1 1 : Int) := by rw [hm.2.1, ti_of (by omega)]
  have ta := ti_of (n := a) (by omega)
  have tb := ti_of (n := b) (by omega)
  have na : (Int32.ofNat a).toInt.toNat = a := by rw [ta]; omega
  have nb : (Int32.ofNat b).toInt.toNat = b := by rw [tb]; omega
  refine pw_findWay2 hI (by omega) (by omega) (by omega) (by omega) e0 e1 (fun σ' r D f hJ hN r1 r2 r3 => ⟨r, rfl, hK r σ' ?_ (fun k j h1 h2 => f k j h1 h2) r1 r2 ?_⟩)
  · refine ⟨fun k j => ?_, fun l hl => ?_⟩
    · by_cases c1 : k = 54
      · rw [c1, iv_54]; exact rng32 _
      · by_cases c2 : k = 55
        · rw [c2, iv_55]; exact rng32 _
        · rw [f k j c1 c2]; exact hI.1 k j
    · have h1 : σ' qO qL = σ qO qL := f 39 1 (by decide) (by decide)
      have h2 : σ' qO qP = σ qO qP := f 39 0 (by decide) (by decide)
      have h3 : σ' qA l = σ qA l := f 40 l (by decide) (by decide)
      have h4 : σ' qB l = σ qB l := f 41 l (by decide) (by decide)
      rw [h1] at hl
      rw [h2, h3, h4]
      exact hI.2 l hl
  · rw [nb] at hJ
    rw [na] at r3
    rw [Rch_of h8 ha hJ hN]
    exact r3
theorem ag_walk0 {σ : St} {a b c : Int32} (hJ : J2 D0 σ) (j1 : CI 65 [.ref 0, .int a, .int b, .int c] σ (fun _ σ' => J σ')) (j2 : ∀ σ1, J σ1 → CI 161 [.ref 39, .int a, .int b, .int c] σ1 (fun _ σ' => J σ')) {K : Int32 → Int32 → St → Prop} (hK : ∀ v1 v2 σ', J2 D0 σ' → K v1 v2 σ') : CI 65 [.ref 0, .int a, .int b, .int c] σ (fun v1 σ1 => CI 161 [.ref 39, .int a, .int b, .int c] σ1 (fun v2 σ2 => K v1 v2 σ2)) := by
  refine ag_op HD0 hJ j1 j2 (fun P x n hx hm hb hc hN hs => ⟨(inR (P.1 2) a ∧ twoR (P.1 0) b c) ∧ Rch σ (P.1 0) (P.1 1) (σ 20 a.toNatClampNeg) b.toNatClampNeg c.toNatClampNeg, cls σ, ?_, fun σ1 J1 e39 => ?_⟩) hK
  · refine w_65 (s_86 hb.2.2.2.2.1 hb.1 (ite10 (fun c1 => s_89 hx.2.1 hx.1.1 (ite10 (fun c2 => ?_) (fun c2 => Or.inl ⟨fun z => c2 z.1.2, fun _ _ _ => rfl⟩))) (fun c1 => Or.inl ⟨fun z => c1 z.1.1, fun _ _ _ => rfl⟩)))
    have hM := hb.1
    have h8 := hx.1.1
    refine ⟨by unfold inR at c1; omega, ?_⟩
    obtain ⟨kc, hkc, rfl, ec⟩ := inR_n c2.2.1
    obtain ⟨kb, hkb, rfl, eb⟩ := inR_n c2.1
    rw [ec, eb]
    have hG := MG_of hJ.1.1 hx hm
    have h1 := CV.con (c := con_9) sat_9 rfl rfl rfl (vs := [.ref 27, .int (σ 20 a.toNatClampNeg), .int (Int32.ofNat kc)]) (by exact ⟨rfl, aI (by decide) (by decide), aI (by decide) (by decide), trivial⟩) hJ.1.1
    refine (CV.and h1 (s_38 (K := fun σ' => (∀ k j, ¬ k = 28 → σ' k j = σ k j) ∧ BD σ' ∧ Jn (P.1 0) (P.1 1) kc (eN σ 40) (eN σ 41) (inB (σ 20 a.toNatClampNeg)) (DF σ') ∧ In (P.1 0) (P.1 1) (eN σ 40) (eN σ 41) (inB (σ 20 a.toNatClampNeg)) (P.1 0 : Int) (DF σ')) hG hkc (fun σ' q1 q2 q3 q4 => ⟨q1, q2, q3, q4⟩))).imp fun σ3 ⟨⟨I3, _⟩, f3, B3, J3, N3⟩ => ?_
    refine ⟨by rw [ti_of (by omega)]; omega, ?_⟩
    have rq := Rch_of h8 hkb J3 N3
    by_cases d : σ3 28 kb = -1
    · rw [if_pos d]
      refine Or.inl ⟨fun z => ?_, f3⟩
      have := rq.mp z.2
      rw [(df_n B3 (by omega)).mp d] at this
      omega
    · rw [if_neg d]
      have ok : Rch σ (P.1 0) (P.1 1) (σ 20 a.toNatClampNeg) kb kc := rq.mpr (by
        have := (J3.1 kb hkb).2
        have ne : ¬ DF σ3 kb = FARI := fun z => d ((df_n B3 (by omega)).mpr z)
        omega)
      have hb3 : B2 σ3 (P.1 2) (P.1 1) x n := by
        obtain ⟨q1, q2, q3, q4, q5, q6, q7, q8, q9⟩ := hb
        exact ⟨q1, q2, q3, q4, by rw [f3 11 2 (by omega)]; exact q5, by rw [f3 11 1 (by omega)]; exact q6, by rw [f3 22 0 (by omega)]; exact q7, by rw [f3 24 1 (by omega)]; exact q8, by rw [f3 24 2 (by omega)]; exact q9⟩
      refine s_9I I3 hb3 fun σ4 I4 r4 f4 => ?_
      have rc := RC_pre r4 (σ := σ) (fun k j h => f3 k j (by omega))
      have fc : ∀ k j, ¬ k = 23 → ¬ (k = 24 ∧ (j = 1 ∨ j = 2)) → ¬ k = 28 → σ4 k j = σ k j := fun k j h1 h2 h3 => (f4 k j h1 h2).trans (f3 k j h3)
      refine CI.pur (c := con_11) sat_11 rfl rfl (by decide) rfl rfl (by exact ⟨rfl, aI (by decide) (by decide), aI (by decide) (by decide), aI (by decide) (by decide), trivial⟩) I4 fun v5 => ?_
      split
      · exact Or.inr ⟨⟨⟨c1, c2⟩, ok⟩, CO0 hM rc fc (fun _ _ _ _ _ => rfl)⟩
      · exact Or.inr ⟨⟨⟨c1, c2⟩, ok⟩, CO0 hM rc fc (fun k j h1 h2 h3 => s2_ne _ _ (by omega))⟩
  · have hc1 := C2_39 hc e39
    have hM := hb.1
    have h8 := hx.1.1
    have e390 : σ1 39 0 = Int32.ofNat (P.1 0) := (e39 39 0 (by omega)).trans hm.1
    refine w_161 (s_115 hc1.2.2.2.1 hb.1 (ite10 (fun c1 => s_113 e390 h8 (ite10 (fun c2 => ?_) (fun c2 => Or.inl ⟨fun z => c2 z.1.2, fun _ _ _ _ => rfl⟩))) (fun c1 => Or.inl ⟨fun z => c1 z.1.1, fun _ _ _ _ => rfl⟩)))
    refine ⟨by unfold inR at c1; omega, ?_⟩
    obtain ⟨kc, hkc, rfl, ec⟩ := inR_n c2.2.1
    obtain ⟨kb, hkb, rfl, eb⟩ := inR_n c2.1
    obtain ⟨ka, hka, rfl, ea⟩ := inR_n c1
    rw [ec, eb, ea]
    have hm1 : MPl σ1 P := MPl_ex (fun k j hk => e39 k j (by omega)) hm
    have ew : σ1 46 ka = σ 20 ka := by
      rw [e39 46 ka (by omega)]
      have := hN (5 + ka) (Or.inr (Or.inr ⟨by omega, by omega, by omega⟩))
      rw [cls5 (by omega), mu5] at this
      exact this.symm
    have x40 : eN σ1 40 = eN σ 40 := by funext j; unfold eN; rw [e39 40 j (by omega)]
    have x41 : eN σ1 41 = eN σ 41 := by funext j; unfold eN; rw [e39 41 j (by omega)]
    rw [ew]
    refine m_142 J1.1 hx.1 hm1 hkb hkc fun r σ3 I3 f3 r1 r2 r3 => ?_
    have rq : Rch σ1 (P.1 0) (P.1 1) (σ 20 ka) kb kc ↔ Rch σ (P.1 0) (P.1 1) (σ 20 ka) kb kc := by unfold Rch; rw [x40, x41]
    have l0 : (0 : Int32).toInt = 0 := rfl
    by_cases d : 0 ≤ r
    · rw [if_pos d]
      have ok := rq.mp (r3.mp (by rw [Int32.le_iff_toInt_le, l0] at d; exact d))
      have hc3 : C2 σ3 (P.1 2) (P.1 1) n := C2_ex hc1 (fun j => f3 39 j (by omega) (by omega))
      refine s_153I I3 hc3 fun σ4 I4 r4 f4 => ?_
      have rm := RM_pre r4 (σ := σ1) (fun k j h => f3 k j (by omega) (by omega))
      have fc : ∀ k j, ¬ k = 56 → ¬ (k = 39 ∧ j = 32) → ¬ k = 54 → ¬ k = 55 → σ4 k j = σ1 k j := fun k j h1 h2 h3 h4 => (f4 k j h1 h2).trans (f3 k j h3 h4)
      have hV : ∀ c, D0 (P.1 2) c → σ1 46 (mu c) = cls σ c := fun c hc => by rw [e39 46 _ (by omega)]; exact (hN c hc).symm
      have h4 : σ1 39 12 = cls σ 4 := by rw [e39 39 12 (by omega)]; exact hs.symm
      refine CI.pur (c := con_96) sat_96 rfl rfl (by decide) rfl rfl (by exact ⟨rfl, ⟨r, rfl, r1, r2⟩, trivial⟩) I4 fun v5 => ?_
      have fin : ∀ w, MO D0 (P.1 2) n σ1 (cls σ) (s2 σ4 46 12 w) := fun w => MO0 rm fc (fun k j h1 _ _ => s2_ne _ _ (by omega)) hV h4
      split
      · exact Or.inr ⟨⟨⟨c1, c2⟩, ok⟩, fin _⟩
      · split
        · exact Or.inr ⟨⟨⟨c1, c2⟩, ok⟩, fin _⟩
        · exact Or.inr ⟨⟨⟨c1, c2⟩, ok⟩, fin _⟩
    · rw [if_neg d]
      refine Or.inl ⟨fun z => d ?_, f3⟩
      rw [Int32.le_iff_toInt_le, l0]
      exact r3.mpr (rq.mpr z.2)
