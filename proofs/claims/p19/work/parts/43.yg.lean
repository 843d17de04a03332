/-! ways: how far, which line first, where one falls -/
theorem Adj_cg {Ln : Nat} {ex ey ex' ey' : Nat → Nat} {hb : Nat → Prop} (h : ∀ l, l < Ln → ex l = ex' l ∧ ey l = ey' l) {x y : Nat} (a : Adj Ln ex ey hb x y) : Adj Ln ex' ey' hb x y := by
  obtain ⟨l, a1, a2, a3⟩ := a
  obtain ⟨e1, e2⟩ := h l a1
  rw [e1, e2] at a3
  exact ⟨l, a1, a2, a3⟩
theorem Jn_cg {P Ln b : Nat} {ex ey ex' ey' : Nat → Nat} {hb : Nat → Prop} (h : ∀ l, l < Ln → ex l = ex' l ∧ ey l = ey' l) {D : Nat → Int} (a : Jn P Ln b ex ey hb D) : Jn P Ln b ex' ey' hb D :=
  ⟨a.1, a.2.1, fun v hv hn hf => by
    obtain ⟨u, u1, u2, u3⟩ := a.2.2 v hv hn hf
    exact ⟨u, u1, Adj_cg h u2, u3⟩⟩
theorem In_cg {P Ln : Nat} {ex ey ex' ey' : Nat → Nat} {hb : Nat → Prop} (h : ∀ l, l < Ln → ex l = ex' l ∧ ey l = ey' l) {k : Int} {D : Nat → Int} (a : In P Ln ex ey hb k D) : In P Ln ex' ey' hb k D :=
  fun x y hx hy ha hk => a x y hx hy (Adj_cg (fun l hl => ⟨(h l hl).1.symm, (h l hl).2.symm⟩) ha) hk
/-- how far each place is from b, by w -/
def FP (P : PS) (w : Int32) (b : Nat) (D : Nat → Int) : Prop := Jn (P.1 0) (P.1 1) b (pX P) (pY P) (inB w) D ∧ In (P.1 0) (P.1 1) (pX P) (pY P) (inB w) (P.1 0 : Int) D
noncomputable def ds (P : PS) (w : Int32) (b : Nat) : Nat → Int := Classical.epsilon (fun D => FP P w b D)
theorem ds_FP {P : PS} {w : Int32} {b : Nat} {D : Nat → Int} (h : FP P w b D) : FP P w b (ds P w b) := Classical.epsilon_spec (p := fun D => FP P w b D) ⟨D, h⟩
theorem FARlt {P : PS} (hP : PG P) : ((P.1 0 : Nat) : Int) < FARI := by have := hP.1.1; unfold FARI; omega
theorem ds_eq {P : PS} (hP : PG P) {w : Int32} {b : Nat} {D : Nat → Int} (h : FP P w b D) {v : Nat} (hv : v < P.1 0) : D v = ds P w b v := far_eq (ds_FP h).1 (ds_FP h).2 h.1 h.2 (FARlt hP) hv
theorem FP_good {P : PS} (hP : PG P) {w : Int32} {b : Nat} {D : Nat → Int} (h : FP P w b D) : (∀ v, v < P.1 0 → D v < FARI → D v ≤ (P.1 0 : Int) - 1) ∧ ∀ v, v < P.1 0 → v ≠ b → D v < FARI → 1 ≤ D v ∧ ∃ u, u < P.1 0 ∧ Adj (P.1 1) (pX P) (pY P) (inB w) v u ∧ D u = D v - 1 := far_good h.1 h.2 (FARlt hP)
/-- a line's other end -/
def oe (P : PS) (l v : Nat) : Option Nat := if pX P l = v then some (pY P l) else if pY P l = v then some (pX P l) else none
def oI : Option Nat → Int32
  | some l => Int32.ofNat l
  | none => -1
theorem oI_ne {n : Nat} (h : n < 2147483648) : ¬ Int32.ofNat n = -1 := fun z => by
  have := congrArg Int32.toInt z
  rw [ti_of h] at this
  have l : (-1 : Int32).toInt = -1 := rfl
  omega
theorem oe_lt {P : PS} (hP : PG P) {l v u : Nat} (hl : l < P.1 1) (h : oe P l v = some u) : u < P.1 0 := by
  obtain ⟨p1, p2, -⟩ := hP.2 l hl
  unfold oe at h
  split at h
  · cases h; exact p2
  · split at h
    · cases h; exact p1
    · cases h
theorem of_eq {n m : Nat} (hn : n < 2147483648) (hm : m < 2147483648) : Int32.ofNat n = Int32.ofNat m ↔ n = m := ⟨fun z => of_inj hn hm z, fun z => by rw [z]⟩
theorem s_42 {σ : St} {P : PS} {l v : Nat} {K : Int32 → St → Prop} (hx : XP σ P) (hP : PG P) (hl : l < P.1 1) (hv : v < 8) (hK : K (oI (oe P l v)) σ) : CI 42 [.ref 27, .int (Int32.ofNat l), .int (Int32.ofNat v)] σ K := by
  have h12 := hP.1.2.1
  have h8 := hP.1.1
  have l0 : (0 : Int32).toInt = 0 := rfl
  have l12 : (12 : Int32).toInt = 12 := rfl
  obtain ⟨p1, p2, p3, p4⟩ := hP.2 l hl
  obtain ⟨x1, x2, -⟩ := hx.2.2.2.2.2.1 l hl
  refine w_42 ?_
  rw [if_neg (by rw [Int32.lt_iff_toInt_lt, ti_of (by omega), l0]; omega), if_pos (by rw [Int32.lt_iff_toInt_lt, ti_of (by omega), l12]; omega)]
  refine ⟨by rw [ti_of (by omega)]; omega, ?_⟩
  rw [tc_of (by omega), x1, x2, p3, p4]
  unfold oe at hK
  by_cases c : pX P l = v
  · rw [if_pos c] at hK
    rw [if_pos ((of_eq (by omega) (by omega)).mpr c)]
    exact hK
  · rw [if_neg c] at hK
    rw [if_neg (fun z => c ((of_eq (by omega) (by omega)).mp z))]
    by_cases d : pY P l = v
    · rw [if_pos d] at hK
      rw [if_pos ((of_eq (by omega) (by omega)).mpr d)]
      exact hK
    · rw [if_neg d] at hK
      rw [if_neg (fun z => d ((of_eq (by omega) (by omega)).mp z))]
      exact hK
theorem s_138 {σ : St} {P : PS} {l v : Nat} {K : Int32 → St → Prop} (hm : MPl σ P) (hP : PG P) (hl : l < P.1 1) (hv : v < 8) (hK : K (oI (oe P l v)) σ) : CI 138 [.ref 39, .int (Int32.ofNat l), .int (Int32.ofNat v)] σ K := by
  have h12 := hP.1.2.1
  have h8 := hP.1.1
  obtain ⟨p1, p2, p3, p4⟩ := hP.2 l hl
  obtain ⟨x1, x2, -⟩ := hm.2.2.2.2.1 l hl
  refine w_138 ⟨by rw [ti_of (by omega)]; omega, ?_⟩
  rw [tc_of (by omega), x1, x2, p3, p4]
  unfold oe at hK
  by_cases c : pX P l = v
  · rw [if_pos c] at hK
    rw [if_pos ((of_eq (by omega) (by omega)).mpr c)]
    exact hK
  · rw [if_neg c] at hK
    rw [if_neg (fun z => c ((of_eq (by omega) (by omega)).mp z))]
    by_cases d : pY P l = v
    · rw [if_pos d] at hK
      rw [if_pos ((of_eq (by omega) (by omega)).mpr d)]
      exact hK
    · rw [if_neg d] at hK
      rw [if_neg (fun z => d ((of_eq (by omega) (by omega)).mp z))]
      exact hK
/-- a line by which one comes nearer -/
def nr (D : Nat → Int) (v : Nat) : Option Nat → Bool
  | some u => decide (D u = D v - 1)
  | none => false
def gd (P : PS) (w : Int32) (D : Nat → Int) (v l : Nat) : Bool := bt w l && nr D v (oe P l v)
/-- the first from i on, of d -/
def fs (f : Nat → Bool) : Nat → Nat → Option Nat
  | 0, _ => none
  | d + 1, i => bif f i then some i else fs f d (i + 1)
theorem fs_s {f : Nat → Bool} : ∀ (d i : Nat) {l : Nat}, fs f d i = some l → f l = true ∧ i ≤ l ∧ l < i + d
  | 0, i, l, h => by cases h
  | d + 1, i, l, h => by
    have h' : (bif f i then some i else fs f d (i + 1)) = some l := h
    cases hf : f i with
    | true => rw [hf, cond_true] at h'; cases h'; exact ⟨hf, by omega, by omega⟩
    | false =>
      rw [hf, cond_false] at h'
      obtain ⟨a, b, c⟩ := fs_s d (i + 1) h'
      exact ⟨a, by omega, by omega⟩
theorem fs_n {f : Nat → Bool} : ∀ (d i : Nat), fs f d i = none → ∀ l, i ≤ l → l < i + d → f l = false
  | 0, i, _, l, h1, h2 => by omega
  | d + 1, i, h, l, h1, h2 => by
    have h' : (bif f i then some i else fs f d (i + 1)) = none := h
    cases hf : f i with
    | true => rw [hf, cond_true] at h'; cases h'
    | false =>
      rw [hf, cond_false] at h'
      by_cases c : l = i
      · rw [c]; exact hf
      · exact fs_n d (i + 1) h' l (by omega) (by omega)
def nx (P : PS) (w : Int32) (D : Nat → Int) (v : Nat) : Option Nat := fs (gd P w D v) (P.1 1) 0
theorem gd_s {P : PS} {w : Int32} {D : Nat → Int} {v l : Nat} (h : gd P w D v l = true) : bt w l = true ∧ ∃ u, oe P l v = some u ∧ D u = D v - 1 := by
  unfold gd at h
  rw [Bool.and_eq_true] at h
  refine ⟨h.1, ?_⟩
  have h2 := h.2
  cases ho : oe P l v with
  | none => rw [ho] at h2; cases h2
  | some u => rw [ho] at h2; exact ⟨u, rfl, of_decide_eq_true h2⟩
/-- there is such a line -/
theorem nx_s {P : PS} (hP : PG P) {w : Int32} {b : Nat} {D : Nat → Int} (h : FP P w b D) {v : Nat} (hv : v < P.1 0) (hb : v ≠ b) (hf : D v < FARI) : ∃ l u, nx P w D v = some l ∧ l < P.1 1 ∧ bt w l = true ∧ oe P l v = some u ∧ u < P.1 0 ∧ D u = D v - 1 := by
  have h12 := hP.1.2.1
  cases hn : nx P w D v with
  | some l =>
    obtain ⟨a, -, c⟩ := fs_s _ _ hn
    obtain ⟨g1, u, g2, g3⟩ := gd_s a
    exact ⟨l, u, rfl, by omega, g1, g2, oe_lt hP (by omega) g2, g3⟩
  | none =>
    exfalso
    obtain ⟨-, u, u1, ⟨l, l1, l2, l3⟩, u3⟩ := (FP_good hP h).2 v hv hb hf
    have hg := fs_n _ _ hn l (Nat.zero_le _) (by omega)
    have t := (inB_t (by omega)).mp l2
    unfold gd at hg
    rw [t, Bool.true_and] at hg
    unfold oe at hg
    rcases l3 with ⟨e1, e2⟩ | ⟨e1, e2⟩
    · rw [if_pos e1, e2] at hg
      exact absurd u3 (of_decide_eq_false hg)
    · by_cases c : pX P l = v
      · have uv : u = v := e1.symm.trans c
        rw [uv] at u3
        omega
      · rw [if_neg c, if_pos e2, e1] at hg
        exact absurd u3 (of_decide_eq_false hg)
/-- the way, line by line -/
def wy (P : PS) (w : Int32) (D : Nat → Int) : Nat → Nat → List Nat
  | 0, _ => []
  | d + 1, v => match nx P w D v with
    | none => []
    | some l => l :: (match oe P l v with
      | some u => wy P w D d u
      | none => [])
def gf (land : Int32) : List Nat → Nat → Int32
  | [], _ => -1
  | l :: t, g => bif bt land l then gf land t (g + 1) else Int32.ofNat g
theorem wy_s {P : PS} {w : Int32} {D : Nat → Int} {d v l u : Nat} (h : nx P w D v = some l) (h2 : oe P l v = some u) : wy P w D (d + 1) v = l :: wy P w D d u := by
  show (match nx P w D v with | none => [] | some l => l :: (match oe P l v with | some u => wy P w D d u | none => [])) = _
  rw [h]
  dsimp only
  rw [h2]
/-- the class's measure, as it stands -/
def MF (σ : St) (P : PS) (D : Nat → Int) : Prop := BD σ ∧ ∀ v, v < P.1 0 → DF σ v = D v
theorem MF_g {σ : St} {P : PS} (hP : PG P) {D : Nat → Int} (h : MF σ P D) {v n : Nat} (hv : v < P.1 0) (hn : n ≤ 8) : (σ 28 v = Int32.ofNat n) ↔ D v = (n : Int) := by
  have h8 := hP.1.1
  rw [← h.2 v hv]
  exact df_g h.1 (by omega) hn
theorem MF_n {σ : St} {P : PS} (hP : PG P) {D : Nat → Int} (h : MF σ P D) {v : Nat} (hv : v < P.1 0) : (σ 28 v = -1) ↔ D v = FARI := by
  have h8 := hP.1.1
  rw [← h.2 v hv]
  exact df_n h.1 (by omega)
theorem m_38 {σ : St} {P : PS} {w : Int32} {b : Nat} {K : St → Prop} (hI : Inv σ) (hx : XP σ P) (hm : MPl σ P) (hb : b < P.1 0) (hK : ∀ σ', Inv σ' → (∀ k j, ¬ k = 28 → σ' k j = σ k j) → FP P w b (ds P w b) → MF σ' P (ds P w b) → K σ') : CV 38 [.ref 27, .int w, .int (Int32.ofNat b)] σ K := by
  have hP := PG_of hI hx.1 hm
  have h1 := CV.con (c := con_9) sat_9 rfl rfl rfl (vs := [.ref 27, .int w, .int (Int32.ofNat b)]) (by exact ⟨rfl, aI (by decide) (by decide), aI (by decide) (by decide), trivial⟩) hI
  have cg : ∀ l, l < P.1 1 → eN σ 40 l = pX P l ∧ eN σ 41 l = pY P l := fun l hl => by
    obtain ⟨b1, b2, -⟩ := hm.2.2.2.2.1 l hl
    unfold eN pX pY
    rw [b1, b2]
    exact ⟨rfl, rfl⟩
  refine (CV.and h1 (s_38 (K := fun σ' => (∀ k j, ¬ k = 28 → σ' k j = σ k j) ∧ BD σ' ∧ FP P w b (DF σ')) (MG_of hI hx hm) hb (fun σ' q1 q2 q3 q4 => ⟨q1, q2, Jn_cg cg q3, In_cg cg q4⟩))).imp fun σ3 ⟨⟨I3, _⟩, f3, B3, F3⟩ => ?_
  exact hK σ3 I3 f3 (ds_FP F3) ⟨B3, fun v hv => ds_eq hP F3 hv⟩
/-- nextLine -/
theorem s_41l {σ : St} {P : PS} {w : Int32} {D : Nat → Int} {v n : Nat} {K : Int32 → St → Prop} (hx : XP σ P) (hP : PG P) (hM : MF σ P D) (hv : v < P.1 0) (hn : n ≤ 7) (hd : D v = (n : Int) + 1) : ∀ (d i : Nat) (o : Option Value), i + d = P.1 1 → K (oI (fs (gd P w D v) d i)) σ → PI 41 17 [some (.ref 27), some (.int w), some (.int (Int32.ofNat v)), some (.int (Int32.ofNat n)), some (.int (Int32.ofNat i)), o] [] σ K := by
  have h12 := hP.1.2.1
  have h8 := hP.1.1
  intro d
  induction d with
  | zero =>
    intro i o hi hK
    refine w_41_17 ?_
    rw [hx.2.2.1, if_pos (by rw [Int32.le_iff_toInt_le, ti_of (by omega), ti_of (by omega)]; omega)]
    exact hK
  | succ d ih =>
    intro i o hi hK
    refine w_41_17 ?_
    rw [hx.2.2.1, if_neg (by rw [Int32.le_iff_toInt_le, ti_of (by omega), ti_of (by omega)]; omega)]
    refine s_92 (by omega) ?_
    have hK' : K (oI (bif gd P w D v i then some i else fs (gd P w D v) d (i + 1))) σ := hK
    have no : gd P w D v i = false → ∀ o', PI 41 17 [some (.ref 27), some (.int w), some (.int (Int32.ofNat v)), some (.int (Int32.ofNat n)), some (.int (Int32.ofNat (i + 1))), o'] [] σ K := fun g o' => by
      rw [g, cond_false] at hK'
      exact ih (i + 1) o' (by omega) hK'
    by_cases c : b01 w i = 1
    · rw [if_pos c, of_s]
      have tw := b01_1.mp c
      refine s_42 hx hP (by omega) (by omega) ?_
      cases ho : oe P i v with
      | none =>
        rw [if_pos (show oI none = -1 from rfl)]
        exact no (by unfold gd; rw [tw, ho]; rfl) _
      | some u =>
        have hu := oe_lt hP (by omega) ho
        show (if Int32.ofNat u = -1 then _ else _)
        rw [if_neg (oI_ne (by omega))]
        refine s_40 (by omega) ?_
        have gq : gd P w D v i = decide (D u = D v - 1) := by unfold gd; rw [tw, ho]; rfl
        by_cases e : D u = (n : Int)
        · rw [if_pos ((MF_g hP hM hu (by omega)).mpr e)]
          rw [gq, decide_eq_true (by omega), cond_true] at hK'
          exact hK'
        · rw [if_neg (fun z => e ((MF_g hP hM hu (by omega)).mp z))]
          exact no (by rw [gq]; exact decide_eq_false (by omega)) _
    · rw [if_neg c, of_s]
      refine no ?_ _
      unfold gd
      cases hq : bt w i
      · rfl
      · exact absurd (b01_1.mpr hq) c
theorem s_41 {σ : St} {P : PS} {w : Int32} {D : Nat → Int} {v n : Nat} {K : Int32 → St → Prop} (hx : XP σ P) (hP : PG P) (hM : MF σ P D) (hv : v < P.1 0) (hn : n ≤ 7) (hd : D v = (n : Int) + 1) (hK : K (oI (nx P w D v)) σ) : CI 41 [.ref 27, .int w, .int (Int32.ofNat v)] σ K := by
  have h8 := hP.1.1
  have l0 : (0 : Int32).toInt = 0 := rfl
  have l1 : (1 : Int32).toInt = 1 := rfl
  refine w_41 (s_40 (by omega) ?_)
  rw [(MF_g hP hM hv (n := n + 1) (by omega)).mpr (by omega)]
  have e : Int32.ofNat (n + 1) - 1 = Int32.ofNat n := ti_inj (by
    rw [ti_sub (by rw [ti_of (by omega), l1]; omega) (by rw [ti_of (by omega), l1]; omega), ti_of (by omega), ti_of (by omega), l1]
    omega)
  rw [e, if_pos (by rw [Int32.le_iff_toInt_le, l0, ti_of (by omega)]; omega)]
  exact s_41l hx hP hM hv hn hd (P.1 1) 0 none (by omega) hK
/-- goneBeforeFall -/
theorem s_43l {σ : St} {P : PS} {w land : Int32} {b top a0 : Nat} {D : Nat → Int} {K : Int32 → St → Prop} (hx : XP σ P) (hP : PG P) (hF : FP P w b D) (hM : MF σ P D) (ht : top ≤ 7) : ∀ (d g v : Nat) (o : Option Value), g + d = top → v < P.1 0 → D v = (d : Int) → K (gf land (wy P w D d v) g) σ → PI 43 13 [some (.ref 27), some (.int w), some (.int land), some (.int (Int32.ofNat a0)), some (.int (Int32.ofNat top)), some (.int (Int32.ofNat v)), some (.int (Int32.ofNat g)), o] [] σ K := by
  have h12 := hP.1.2.1
  have h8 := hP.1.1
  intro d
  induction d with
  | zero =>
    intro g v o hg hv hd hK
    refine w_43_13 ?_
    rw [if_pos (by rw [Int32.le_iff_toInt_le, ti_of (by omega), ti_of (by omega)]; omega)]
    exact hK
  | succ d ih =>
    intro g v o hg hv hd hK
    refine w_43_13 ?_
    rw [if_neg (by rw [Int32.le_iff_toInt_le, ti_of (by omega), ti_of (by omega)]; omega)]
    have hb : v ≠ b := fun z => by
      have := hF.1.2.1
      rw [z] at hd
      omega
    obtain ⟨l, u, n1, n2, n3, n4, n5, n6⟩ := nx_s hP hF hv hb (by unfold FARI; omega)
    refine s_41 hx hP hM hv (n := d) (by omega) (by omega) ?_
    rw [n1]
    show (if Int32.ofNat l = -1 then _ else _)
    rw [if_neg (oI_ne (by omega))]
    refine s_92 (by omega) ?_
    rw [wy_s n1 n4] at hK
    have hK' : K (bif bt land l then gf land (wy P w D d u) (g + 1) else Int32.ofNat g) σ := hK
    by_cases c : b01 land l = 0
    · rw [if_pos c]
      rw [b01_0.mp c, cond_false] at hK'
      exact hK'
    · rw [if_neg c]
      have tl : bt land l = true := by
        cases hq : bt land l
        · exact absurd (b01_0.mpr hq) c
        · rfl
      rw [tl, cond_true] at hK'
      refine s_42 hx hP n2 (by omega) ?_
      rw [n4, of_s]
      exact ih (g + 1) u _ (by omega) n5 (by omega) hK'
theorem s_43 {σ : St} {P : PS} {w land : Int32} {b a n : Nat} {D : Nat → Int} {K : Int32 → St → Prop} (hx : XP σ P) (hP : PG P) (hF : FP P w b D) (hM : MF σ P D) (ha : a < P.1 0) (hd : D a = (n : Int)) (hn : n ≤ 7) (hK : K (gf land (wy P w D n a) 0) σ) : CI 43 [.ref 27, .int w, .int land, .int (Int32.ofNat a)] σ K := by
  have h8 := hP.1.1
  refine w_43 (s_40 (by omega) ?_)
  rw [(MF_g hP hM ha (by omega)).mpr hd]
  exact s_43l hx hP hF hM hn n 0 a none (by omega) ha hd hK
/-! the reference -/
theorem m_141 {σ : St} {P : PS} {w : Int32} {b : Nat} {K : St → Prop} (hI : Inv σ) (hb : PB P) (hm : MPl σ P) (h : b < P.1 0) (hK : ∀ σ', (∀ k j, ¬ k = 54 → σ' k j = σ k j) → FP P w b (ds P w b) → (∀ v, v < P.1 0 → (σ' 54 v).toInt = ds P w b v) → K σ') : CV 141 [.ref 39, .int (Int32.ofNat b), .int w] σ K := by
  have hP := PG_of hI hb hm
  have h8 := hb.1
  have h12 := hb.2.1
  have e0 : (σ 39 0).toInt = (P.1 0 : Int) := by rw [hm.1, ti_of (by omega)]
  have e1 : (σ 39 1).toInt = (P.1 1 : Int) := by rw [hm.2.1, ti_of (by omega)]
  have tb := ti_of (n := b) (by omega)
  have nb : (Int32.ofNat b).toInt.toNat = b := by rw [tb]; omega
  have cg : ∀ l, l < P.1 1 → eN σ 40 l = pX P l ∧ eN σ 41 l = pY P l := fun l hl => by
    obtain ⟨b1, b2, -⟩ := hm.2.2.2.2.1 l hl
    unfold eN pX pY
    rw [b1, b2]
    exact ⟨rfl, rfl⟩
  refine pw_findFar hI e0 e1 (by omega) (by omega) (fun σ' f hJ hN => ⟨rfl, ?_⟩)
  rw [nb] at hJ
  have F : FP P w b (DD σ') := ⟨Jn_cg cg hJ, In_cg cg hN⟩
  exact hK σ' (fun k j h => f k j h) (ds_FP F) (fun v hv => ds_eq hP F hv)
/-- the lines of a way lie in the steps -/
def hst (σ : St) : Nat → List Nat → Prop
  | _, [] => True
  | k, l :: t => σ 55 k = Int32.ofNat l ∧ l < 12 ∧ hst σ (k + 1) t
def DG (σ : St) (P : PS) (D : Nat → Int) : Prop := ∀ v, v < P.1 0 → (σ 54 v).toInt = D v
/-- the search of a line -/
theorem s_142i {σ : St} {P : PS} {w : Int32} {D : Nat → Int} {v : Nat} {a b x5 : Int32} {K : Int32 → St → Prop} (hm : MPl σ P) (hP : PG P) (hG : DG σ P D) (hv : v < P.1 0) (h0 : 0 ≤ D v) (hF : D v < FARI) (h5 : 0 ≤ x5.toInt ∧ x5.toInt < 8)
    (cont : ∀ l u, nx P w D v = some l → l < P.1 1 → oe P l v = some u → u < P.1 0 → PI 142 25 [some (.ref 39), some (.int a), some (.int b), some (.int w), some (.int (Int32.ofNat u)), some (.int (x5 + 1)), some (.int (Int32.ofNat l))] [] (s2 σ 55 x5.toNatClampNeg (Int32.ofNat l)) K) :
    ∀ (d i : Nat) {l : Nat}, i + d = P.1 1 → fs (gd P w D v) d i = some l → nx P w D v = some l → PI 142 34 [some (.ref 39), some (.int a), some (.int b), some (.int w), some (.int (Int32.ofNat v)), some (.int x5), some (.int (Int32.ofNat i))] [] σ K := by
  have h12 := hP.1.2.1
  have h8 := hP.1.1
  have l0 : (0 : Int32).toInt = 0 := rfl
  have l1 : (1 : Int32).toInt = 1 := rfl
  intro d
  induction d with
  | zero => intro i l hi h; cases h
  | succ d ih =>
    intro i l hi h hn
    have h' : (bif gd P w D v i then some i else fs (gd P w D v) d (i + 1)) = some l := h
    have no : gd P w D v i = false → PI 142 34 [some (.ref 39), some (.int a), some (.int b), some (.int w), some (.int (Int32.ofNat v)), some (.int x5), some (.int (Int32.ofNat (i + 1)))] [] σ K := fun g => by
      rw [g, cond_false] at h'
      exact ih (i + 1) (by omega) h' hn
    refine w_142_34 (s_110 (by omega) ?_)
    rw [of_s]
    by_cases c : b01 w i = 0
    · rw [if_pos c]
      exact no (by unfold gd; rw [b01_0.mp c]; rfl)
    · rw [if_neg c]
      have tw : bt w i = true := by
        cases hq : bt w i
        · exact absurd (b01_0.mpr hq) c
        · rfl
      refine s_138 hm hP (by omega) (by omega) ?_
      cases ho : oe P i v with
      | none =>
        rw [if_pos (by decide)]
        exact no (by unfold gd; rw [tw, ho]; rfl)
      | some u =>
        have hu := oe_lt hP (by omega) ho
        show (if Int32.ofNat u < 0 then _ else _)
        rw [if_neg (by rw [Int32.lt_iff_toInt_lt, ti_of (by omega), l0]; omega)]
        refine s_138 hm hP (by omega) (by omega) ?_
        rw [ho]
        refine ⟨by show 0 ≤ (Int32.ofNat u).toInt ∧ (Int32.ofNat u).toInt < 8; rw [ti_of (by omega)]; omega, by rw [ti_of (by omega)]; omega, ?_⟩
        show (if σ 54 (Int32.ofNat u).toNatClampNeg = σ 54 (Int32.ofNat v).toNatClampNeg - 1 then _ else _)
        rw [tc_of (show u < 2147483648 by omega), tc_of (show v < 2147483648 by omega)]
        have gq : gd P w D v i = decide (D u = D v - 1) := by unfold gd; rw [tw, ho]; rfl
        have eq : (σ 54 u = σ 54 v - 1) ↔ D u = D v - 1 := by
          have e1 := hG u hu
          have e2 := hG v hv
          unfold FARI at hF
          have e3 : (σ 54 v - 1).toInt = D v - 1 := by rw [ti_sub (by rw [l1, e2]; omega) (by rw [l1, e2]; omega), l1, e2]
          exact ⟨fun z => by rw [← e1, z, e3], fun z => ti_inj (by rw [e1, e3, z])⟩
        by_cases e : D u = D v - 1
        · rw [if_pos (eq.mpr e)]
          rw [gq, decide_eq_true e, cond_true] at h'
          cases h'
          refine ⟨h5, ?_⟩
          refine s_138 (MPl_ex (fun k j hk => s2_ne _ _ (by omega)) hm) hP (by omega) (by omega) ?_
          rw [ho]
          exact cont i u hn (by omega) ho hu
        · rw [if_neg (fun z => e (eq.mp z))]
          exact no (by rw [gq]; exact decide_eq_false e)
theorem s_142w {P : PS} {w : Int32} {b top : Nat} {D : Nat → Int} {a0 : Int32} {K : Int32 → St → Prop} (hP : PG P) (hF : FP P w b D) (hb : b < P.1 0) (ht : top ≤ 7) : ∀ (d g v : Nat) (o : Option Value) {σ : St}, MPl σ P → DG σ P D → g + d = top → v < P.1 0 → D v = (d : Int) → (∀ σ', (∀ k j, ¬ k = 55 → σ' k j = σ k j) → (∀ j, j < g → σ' 55 j = σ 55 j) → hst σ' g (wy P w D d v) → (wy P w D d v).length = d → K (Int32.ofNat top) σ') → PI 142 25 [some (.ref 39), some (.int a0), some (.int (Int32.ofNat b)), some (.int w), some (.int (Int32.ofNat v)), some (.int (Int32.ofNat g)), o] [] σ K := by
  have h12 := hP.1.2.1
  have h8 := hP.1.1
  intro d
  induction d with
  | zero =>
    intro g v o σ hm hG hg hv hd hK
    have eb : v = b := Classical.byContradiction fun z => by
      have := ((FP_good hP hF).2 v hv z (by unfold FARI; omega)).1
      omega
    refine w_142_25 ?_
    rw [if_pos (by rw [eb])]
    have eg : g = top := by omega
    rw [eg]
    exact hK σ (fun _ _ _ => rfl) (fun _ _ => rfl) trivial rfl
  | succ d ih =>
    intro g v o σ hm hG hg hv hd hK
    have nb : v ≠ b := fun z => by
      have := hF.1.2.1
      rw [z] at hd
      omega
    refine w_142_25 ?_
    rw [if_neg (fun z => nb ((of_eq (by omega) (by omega)).mp z))]
    obtain ⟨l0, u0, n1, n2, n3, n4, n5, n6⟩ := nx_s hP hF hv nb (by unfold FARI; omega)
    refine s_142i hm hP hG hv (by omega) (by unfold FARI; omega) (by rw [ti_of (by omega)]; omega) (fun l u m1 m2 m3 m4 => ?_) (P.1 1) 0 (by omega) n1 n1
    have el : l = l0 := Option.some.inj (m1.symm.trans n1)
    subst el
    have eu : u = u0 := Option.some.inj (m3.symm.trans n4)
    subst eu
    rw [tc_of (by omega), of_s]
    refine ih (g + 1) u _ (MPl_ex (fun k j hk => s2_ne _ _ (by omega)) hm) (fun v' hv' => ?_) (by omega) m4 (by omega) (fun σ' f1 f2 f3 f4 => hK σ' (fun k j hk => ?_) (fun j hj => ?_) ?_ ?_)
    · rw [s2_ne _ _ (by omega)]; exact hG v' hv'
    · rw [f1 k j hk, s2_ne _ _ (fun z => hk z.1)]
    · rw [f2 j (by omega), s2_ne _ _ (by omega)]
    · rw [wy_s m1 m3]
      exact ⟨by rw [f2 g (by omega), s2_self], by omega, f3⟩
    · rw [wy_s m1 m3, List.length_cons, f4]
/-- what is to be said of a way: how many lines, or none -/
theorem m_142w {σ : St} {P : PS} {a b : Nat} {w : Int32} {K : Int32 → St → Prop} (hI : Inv σ) (hb : PB P) (hm : MPl σ P) (ha : a < P.1 0) (hb2 : b < P.1 0) (k0 : FP P w b (ds P w b) → ds P w b a = FARI → ∀ σ', (∀ k j, ¬ k = 54 → ¬ k = 55 → σ' k j = σ k j) → K (-1) σ') (k1 : FP P w b (ds P w b) → ∀ n : Nat, n ≤ 7 → ds P w b a = (n : Int) → ∀ σ', (∀ k j, ¬ k = 54 → ¬ k = 55 → σ' k j = σ k j) → hst σ' 0 (wy P w (ds P w b) n a) → (wy P w (ds P w b) n a).length = n → K (Int32.ofNat n) σ') : CI 142 [.ref 39, .int (Int32.ofNat a), .int (Int32.ofNat b), .int w] σ K := by
  have hP := PG_of hI hb hm
  have h8 := hb.1
  have lm : (1000000 : Int32).toInt = 1000000 := rfl
  refine w_142 (m_141 hI hb hm hb2 fun σ1 f1 F G => ⟨by rw [ti_of (by omega)]; omega, ?_⟩)
  rw [tc_of (by omega)]
  have hr := F.1.1 a ha
  by_cases c : ds P w b a < FARI
  · rw [if_pos (by rw [Int32.lt_iff_toInt_lt, G a ha, lm]; exact c)]
    have g1 := (FP_good hP F).1 a ha c
    refine s_142w hP F hb2 (top := (ds P w b a).toNat) (by omega) (ds P w b a).toNat 0 a none (MPl_ex (fun k j hk => f1 k j (by omega)) hm) G (by omega) ha (by omega) (fun σ' q1 q2 q3 q4 => k1 F _ (by omega) (by omega) σ' (fun k j h1 h2 => (q1 k j h2).trans (f1 k j h1)) q3 q4)
  · rw [if_neg (by rw [Int32.lt_iff_toInt_lt, G a ha, lm]; exact c)]
    exact k0 F (by omega) σ1 (fun k j h1 _ => f1 k j h1)
/-- fallsBehind -/
theorem s_143l {σ : St} {n : Nat} {K : Int32 → St → Prop} (hn : n ≤ 8) : ∀ (t : List Nat) (k : Nat), k + t.length = n → hst σ k t → K (gf (σ 46 10) t k) σ → PI 143 2 [some (.ref 39), some (.int (Int32.ofNat n)), some (.int (Int32.ofNat k))] [] σ K
  | [], k, h, _, hK => by
    refine w_143_2 ?_
    have e : k + 0 = n := h
    rw [if_pos (by rw [Int32.le_iff_toInt_le, ti_of (by omega), ti_of (by omega)]; omega)]
    exact hK
  | l :: t, k, h, hs, hK => by
    obtain ⟨s1, s2, s3⟩ := hs
    rw [List.length_cons] at h
    refine w_143_2 ?_
    rw [if_neg (by rw [Int32.le_iff_toInt_le, ti_of (by omega), ti_of (by omega)]; omega)]
    refine ⟨by rw [ti_of (by omega)]; omega, ?_⟩
    rw [tc_of (by omega), s1]
    refine s_110 (by omega) ?_
    have hK' : K (bif bt (σ 46 10) l then gf (σ 46 10) t (k + 1) else Int32.ofNat k) σ := hK
    by_cases c : b01 (σ 46 10) l = 0
    · rw [if_pos c]
      rw [b01_0.mp c, cond_false] at hK'
      exact hK'
    · rw [if_neg c, of_s]
      have tl : bt (σ 46 10) l = true := by
        cases hq : bt (σ 46 10) l
        · exact absurd (b01_0.mpr hq) c
        · rfl
      rw [tl, cond_true] at hK'
      exact s_143l hn t (k + 1) (by omega) s3 hK'
theorem s_143 {σ : St} {n : Nat} {t : List Nat} {K : Int32 → St → Prop} (hn : n ≤ 8) (hl : t.length = n) (hs : hst σ 0 t) (hK : K (gf (σ 46 10) t 0) σ) : CI 143 [.ref 39, .int (Int32.ofNat n)] σ K := w_143 (s_143l hn t 0 (by omega) hs hK)
