/-! unlike, line: the same answers -/
theorem J2_get {σ : St} {P : PS} (hM : P.1 2 ≤ 5) (hN : ∀ c, D0 (P.1 2) c → cls σ c = σ 46 (mu c)) {k : Nat} (hk : k < P.1 2) : σ 20 k = σ 46 k := by
  have := hN (5 + k) (Or.inr (Or.inr ⟨by omega, by omega, by omega⟩))
  rw [cls5 (by omega), mu5] at this
  exact this
theorem ag_unlike {σ : St} {a b : Int32} (hJ : J2 D0 σ) {K : Int32 → Int32 → St → Prop} (hK : ∀ v σ', J2 D0 σ' → K v v σ') : CI 73 [.ref 0, .int a, .int b] σ (fun v1 σ1 => CI 179 [.ref 39, .int a, .int b] σ1 (fun v2 σ2 => K v1 v2 σ2)) := by
  obtain ⟨P, x, n, hx, hm, hu, hN, hi, hs, hb, hc⟩ := hJ.b
  have hM := hb.1
  have S2 : CI 179 [.ref 39, .int a, .int b] σ (fun v σ' => σ' = σ ∧ ((¬ twoR (P.1 2) a b ∧ v = -1000000001) ∨ (twoR (P.1 2) a b ∧ v = σ 46 a.toNatClampNeg ^^^ σ 46 b.toNatClampNeg))) := by
    refine w_179 (s_115 hc.2.2.2.1 hM (ite10 (fun c1 => s_115 hc.2.2.2.1 hM (ite10 (fun c2 => ?_) (fun c2 => ⟨rfl, Or.inl ⟨fun z => c2 z.2.1, rfl⟩⟩))) (fun c1 => ⟨rfl, Or.inl ⟨fun z => c1 z.1, rfl⟩⟩)))
    by_cases c3 : a = b
    · rw [if_pos c3]; exact ⟨rfl, Or.inl ⟨fun z => z.2.2 c3, rfl⟩⟩
    · rw [if_neg c3]
      have r1 := c1
      have r2 := c2
      unfold inR at r1 r2
      exact ⟨by omega, by omega, rfl, Or.inr ⟨⟨c1, c2, c3⟩, rfl⟩⟩
  refine w_73 (s_90 hb.2.2.2.2.1 hM (ite10 (fun c => ?_) (fun c => ?_)))
  · have r1 := c.1
    have r2 := c.2.1
    unfold inR at r1 r2
    refine ⟨by omega, by omega, S2.imp fun v2 σ2 ⟨e, z⟩ => ?_⟩
    rcases z with ⟨no, -⟩ | ⟨-, rfl⟩
    · exact absurd c no
    · obtain ⟨ka, hka, -, ea⟩ := inR_n c.1
      obtain ⟨kb, hkb, -, eb⟩ := inR_n c.2.1
      rw [e, ea, eb, J2_get hM hN hka, J2_get hM hN hkb]
      exact hK _ _ hJ
  · refine S2.imp fun v2 σ2 ⟨e, z⟩ => ?_
    rcases z with ⟨-, rfl⟩ | ⟨ok, -⟩
    · rw [e]; exact hK _ _ hJ
    · exact absurd ok c
theorem s_110 {σ : St} {w : Int32} {k : Nat} {K : Int32 → St → Prop} (hk : k < 32) (hK : K (b01 w k) σ) : CI 110 [.int w, .int (Int32.ofNat k)] σ K := by
  refine pw_has ⟨_, rfl, ?_⟩
  rw [bit_s hk]
  unfold b01 at hK
  cases hb : bt w k with
  | true => rw [hb] at hK; exact hK
  | false => rw [hb] at hK; exact hK
/-- who shows a line -/
def shw (f : Nat → Int32) (a : Nat) : Nat → Nat → Int32 → Int32
  | 0, _, x => x
  | d + 1, i, x => shw f a d (i + 1) (x ||| (b01 (f i) a <<< (Int32.ofNat i &&& 31)))
theorem s_97l {σ : St} {M a : Nat} {K : Int32 → St → Prop} (hM : M ≤ 5) (ha : a < 32) (e : σ 11 2 = Int32.ofNat M) : ∀ (d i : Nat) (x : Int32), i + d = M → K (shw (σ 20) a d i x) σ → PI 97 4 [some (.ref 0), some (.int (Int32.ofNat a)), some (.int x), some (.int (Int32.ofNat i))] [] σ K := by
  intro d
  induction d with
  | zero =>
    intro i x hi hK
    refine w_97_4 ?_
    rw [e, if_pos (by rw [Int32.le_iff_toInt_le, ti_of (by omega), ti_of (by omega)]; omega)]
    exact hK
  | succ d ih =>
    intro i x hi hK
    refine w_97_4 ?_
    rw [e, if_neg (by rw [Int32.le_iff_toInt_le, ti_of (by omega), ti_of (by omega)]; omega)]
    refine ⟨by rw [ti_of (by omega)]; omega, ?_⟩
    rw [tc_of (by omega)]
    refine s_92 ha ?_
    rw [of_s]
    exact ih (i + 1) _ (by omega) hK
theorem sh0 : ∀ i : Fin 5, (0 : Int32) <<< (Int32.ofNat i.val &&& 31) = 0 := by decide +kernel
theorem s_150l {σ : St} {f : Nat → Int32} {M a : Nat} {K : Int32 → St → Prop} (hM : M ≤ 5) (ha : a < 32) (e : σ 39 6 = Int32.ofNat M) (hf : ∀ i, i < M → σ 46 i = f i) : ∀ (d i : Nat) (x : Int32), i + d = M → K (shw f a d i x) σ → PI 150 4 [some (.ref 39), some (.int (Int32.ofNat a)), some (.int x), some (.int (Int32.ofNat i))] [] σ K := by
  intro d
  induction d with
  | zero =>
    intro i x hi hK
    refine w_150_4 ?_
    rw [e, if_pos (by rw [Int32.le_iff_toInt_le, ti_of (by omega), ti_of (by omega)]; omega)]
    exact hK
  | succ d ih =>
    intro i x hi hK
    refine w_150_4 ?_
    rw [e, if_neg (by rw [Int32.le_iff_toInt_le, ti_of (by omega), ti_of (by omega)]; omega)]
    refine ⟨by rw [ti_of (by omega)]; omega, ?_⟩
    rw [tc_of (by omega), hf i (by omega)]
    refine s_110 ha ?_
    rw [of_s]
    unfold shw at hK
    unfold b01 at hK ⊢
    cases hb : bt (f i) a with
    | true =>
      rw [hb] at hK
      rw [if_neg (by decide)]
      exact ih (i + 1) _ (by omega) hK
    | false =>
      rw [hb] at hK
      rw [cond_false, if_pos rfl]
      have := sh0 ⟨i, by omega⟩
      dsimp only at this
      rw [cond_false, this] at hK
      exact ih (i + 1) _ (by omega) hK
theorem ag_line {σ : St} {a b : Int32} (hJ : J2 D0 σ) {K : Int32 → Int32 → St → Prop} (hK : ∀ v σ', J2 D0 σ' → K v v σ') : CI 58 [.ref 0, .int a, .int b] σ (fun v1 σ1 => CI 151 [.ref 39, .int a, .int b] σ1 (fun v2 σ2 => K v1 v2 σ2)) := by
  obtain ⟨P, x, n, hx, hm, hu, hN, hi, hs, hb, hc⟩ := hJ.b
  have hM := hb.1
  have hL := hb.2.1
  refine w_58 (s_85 hb.2.2.2.2.2.1 hL (ite10 (fun c => ?_) (fun c => w_151 (s_114 hc.2.2.2.2.1 hL (ite10 (fun c' => absurd c' c) (fun _ => hK _ _ hJ))))))
  obtain ⟨k, hk, rfl, ea⟩ := inR_n c
  have bd : 0 ≤ (Int32.ofNat k).toInt ∧ (Int32.ofNat k).toInt < 12 := by rw [ti_of (by omega)]; omega
  obtain ⟨x1, x2, x3⟩ := hx.2.2.2.2.2.1 k hk
  obtain ⟨m1, m2, m3⟩ := hm.2.2.2.2.1 k hk
  have go : ∀ {v : Int32}, (if b = 0 then ((0 ≤ (Int32.ofNat k).toInt ∧ (Int32.ofNat k).toInt < 12) ∧ K v (σ 40 (Int32.toNatClampNeg (Int32.ofNat k))) σ) else (if b = 1 then ((0 ≤ (Int32.ofNat k).toInt ∧ (Int32.ofNat k).toInt < 12) ∧ K v (σ 41 (Int32.toNatClampNeg (Int32.ofNat k))) σ) else (if b = 2 then K v (((σ 46 10) >>> ((Int32.ofNat k) &&& 31)) &&& 1) σ else (if b = 3 then ((0 ≤ (Int32.ofNat k).toInt ∧ (Int32.ofNat k).toInt < 12) ∧ K v (σ 42 (Int32.toNatClampNeg (Int32.ofNat k))) σ) else (if b = 4 then CI 150 [.ref 39, .int (Int32.ofNat k)] σ (fun v2 σ2 => K v v2 σ2) else K v (-1000000002) σ))))) → CI 151 [.ref 39, .int (Int32.ofNat k), .int b] σ (fun v2 σ2 => K v v2 σ2) := fun h => w_151 (s_114 hc.2.2.2.2.1 hL (ite10 (fun _ => h) (fun c' => absurd c c')))
  by_cases b0 : b = 0
  · rw [if_pos b0]
    refine ⟨bd, go ?_⟩
    rw [if_pos b0]
    refine ⟨bd, ?_⟩
    rw [ea, x1, m1]
    exact hK _ _ hJ
  · rw [if_neg b0]
    by_cases b1 : b = 1
    · rw [if_pos b1]
      refine ⟨bd, go ?_⟩
      rw [if_neg b0, if_pos b1]
      refine ⟨bd, ?_⟩
      rw [ea, x2, m2]
      exact hK _ _ hJ
    · rw [if_neg b1]
      by_cases b2 : b = 2
      · rw [if_pos b2]
        refine s_92 (by omega) (go ?_)
        rw [if_neg b0, if_neg b1, if_pos b2, bit_s (by omega), ← (show σ 19 0 = σ 46 10 from hN 0 (Or.inl rfl))]
        exact hK _ _ hJ
      · rw [if_neg b2]
        by_cases b3 : b = 3
        · rw [if_pos b3]
          refine ⟨bd, go ?_⟩
          rw [if_neg b0, if_neg b1, if_neg b2, if_pos b3]
          refine ⟨bd, ?_⟩
          rw [ea, x3, m3]
          exact hK _ _ hJ
        · rw [if_neg b3]
          by_cases b4 : b = 4
          · rw [if_pos b4]
            refine w_97 (s_97l hM (by omega) hb.2.2.2.2.1 (P.1 2) 0 0 (by omega) (go ?_))
            rw [if_neg b0, if_neg b1, if_neg b2, if_neg b3, if_pos b4]
            exact w_150 (s_150l hM (by omega) hc.2.2.2.1 (fun i hi => (J2_get hM hN hi).symm) (P.1 2) 0 0 (by omega) (hK _ _ hJ))
          · rw [if_neg b4]
            refine go ?_
            rw [if_neg b0, if_neg b1, if_neg b2, if_neg b3, if_neg b4]
            exact hK _ _ hJ
