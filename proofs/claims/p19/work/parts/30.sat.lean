/-! a contract that is checked holds -/
def wtd : Nat → List Int → Nat
  | 0, _ => 0
  | d + 1, [] => 2 ^ (35 * (d + 1)) - 1
  | d + 1, a :: t => (4294967296 - a).toNat * 2 ^ (35 * d) + wtd d t
def bnd (l : List Int) : Prop := ∀ a ∈ l, -2147483648 ≤ a ∧ a ≤ 2147483648
theorem pow_s (d : Nat) : 2 ^ (35 * (d + 1)) = 34359738368 * 2 ^ (35 * d) := by
  rw [Nat.mul_add, Nat.pow_add, Nat.mul_comm]
theorem pow_p (d : Nat) : 0 < 2 ^ (35 * d) := Nat.pow_pos (by decide)
theorem wtd_lt : ∀ (d : Nat) (l : List Int), bnd l → wtd d l < 2 ^ (35 * d)
  | 0, _, _ => by simp [wtd]
  | d + 1, [], _ => by unfold wtd; have := pow_p (d + 1); omega
  | d + 1, a :: t, h => by
    have h1 := h a List.mem_cons_self
    have h2 := wtd_lt d t (fun b hb => h b (List.mem_cons_of_mem _ hb))
    unfold wtd
    rw [pow_s]
    have h3 : (4294967296 - a).toNat ≤ 8589934592 := by omega
    have h4 := Nat.mul_le_mul_right (2 ^ (35 * d)) h3
    omega
theorem wtd_dec : ∀ (d : Nat) (s t : List Int), bnd s → bnd t → s.length ≤ d → t.length ≤ d → LTm s t → wtd d t < wtd d s
  | 0, [], [], _, _, _, _, h => by cases h
  | 0, _ :: _, _, _, _, hl, _, _ => by simp at hl
  | 0, _, _ :: _, _, _, _, hl, _ => by simp at hl
  | d + 1, [], b :: t, _, ht, _, _, _ => by
    have h1 := ht b List.mem_cons_self
    have h2 := wtd_lt d t (fun c hc => ht c (List.mem_cons_of_mem _ hc))
    have e1 : wtd (d + 1) (b :: t) = (4294967296 - b).toNat * 2 ^ (35 * d) + wtd d t := rfl
    have e2 : wtd (d + 1) [] = 2 ^ (35 * (d + 1)) - 1 := rfl
    rw [e1, e2, pow_s]
    have h3 : (4294967296 - b).toNat ≤ 8589934592 := by omega
    have h4 := Nat.mul_le_mul_right (2 ^ (35 * d)) h3
    have h5 := pow_p d
    omega
  | d + 1, a :: s, b :: t, hs, ht, l1, l2, h => by
    have h1 := ht b List.mem_cons_self
    have h0 := hs a List.mem_cons_self
    have h2 := wtd_lt d t (fun c hc => ht c (List.mem_cons_of_mem _ hc))
    have e1 : wtd (d + 1) (b :: t) = (4294967296 - b).toNat * 2 ^ (35 * d) + wtd d t := rfl
    have e2 : wtd (d + 1) (a :: s) = (4294967296 - a).toNat * 2 ^ (35 * d) + wtd d s := rfl
    rw [e1, e2]
    rcases h with h | ⟨h, h'⟩
    · have h3 : (4294967296 - b).toNat + 1 ≤ (4294967296 - a).toNat := by omega
      have h4 := Nat.mul_le_mul_right (2 ^ (35 * d)) h3
      rw [Nat.add_mul, Nat.one_mul] at h4
      omega
    · have h3 := wtd_dec d s t (fun c hc => hs c (List.mem_cons_of_mem _ hc)) (fun c hc => ht c (List.mem_cons_of_mem _ hc)) (by simpa using l1) (by simpa using l2) h'
      rw [h]
      omega
  | d + 1, [], [], _, _, _, _, h => by cases h
  | d + 1, _ :: _, [], _, _, _, _, h => by cases h
theorem iOf_bnd {o : Option Value} {a : Int} (h : iOf o = some a) : -2147483648 ≤ a ∧ a ≤ 2147483647 := by
  unfold iOf at h
  split at h
  · rename_i x
    have := rng32 x
    unfold lo32 hi32 at this
    have e := Option.some.inj h
    omega
  · cases h
theorem mval_bnd {vs : List Value} {σ0 σ : St} {lvc : Lv} {m : List (Pt × Bool)} (h : m.all (fun q => decide (q.1.1 < 5) || decide (q.1.2.1 < 1000)) = true) : bnd (mval vs σ0 σ lvc m) := by
  intro a ha
  obtain ⟨q, hq, rfl⟩ := List.mem_map.mp ha
  have h1 := List.all_eq_true.mp h q hq
  rw [Bool.or_eq_true, decide_eq_true_eq, decide_eq_true_eq] at h1
  have h2 : -2147483648 ≤ (pval vs σ0 σ none lvc q.1).getD 0 ∧ (pval vs σ0 σ none lvc q.1).getD 0 ≤ 2147483647 := by
    cases hp : pval vs σ0 σ none lvc q.1 with
    | none => simp
    | some v =>
      show -2147483648 ≤ v ∧ v ≤ 2147483647
      obtain ⟨⟨t, k, j⟩, u⟩ := q
      match t, hp, h1 with
      | 0, hp, _ => exact iOf_bnd hp
      | 1, hp, _ => have := rng32 (σ0 k j); unfold lo32 hi32 at this; have e := Option.some.inj hp; dsimp only at e; omega
      | 2, hp, _ => have := rng32 (σ k j); unfold lo32 hi32 at this; have e := Option.some.inj hp; dsimp only at e; omega
      | 3, hp, _ => cases hp
      | 4, hp, _ => exact iOf_bnd hp
      | t + 5, hp, h1 =>
        have e : (k : Int) = v := Option.some.inj hp
        dsimp only at h1
        omega
  unfold sg
  cases q.2 with
  | true => rw [cond_true]; omega
  | false => rw [cond_false]; omega
theorem K0_ok {X : Scr} {σ : St} {g : Bool} (h : g = true → RQ σ) : vOK X (fun _ => 0) (K0 g) σ := ⟨(fun q hq => by cases hq), (fun q hq => by cases hq), (fun q hq => by cases hq), (fun q hq => by cases hq), (fun q hq => by cases hq), h⟩
theorem stArg_ok {X : Scr} {σ : St} : ∀ {ss : List ArgS} {vs : List Value} {K : Kn} {ν : Nat → Int}, vOK X ν K σ → argsS ss vs → ∃ ν', xt ν ν' (kN K) ∧ kN K ≤ kN (stArg K ss).1 ∧ vOK X ν' (stArg K ss).1 σ ∧ StR ν' (kN (stArg K ss).1) (stArg K ss).2 vs
  | [], [], K, ν, hv, _ => ⟨ν, xt.rf, Nat.le_refl _, hv, trivial⟩
  | s :: t, v :: u, K, ν, hv, h => by
    obtain ⟨tg, lo, hi⟩ := s
    match tg, h.1 with
    | 0, h1 =>
      obtain ⟨x, rfl, e1, e2⟩ := h1
      obtain ⟨ν1, x1, x2, x3, x4, x5, x6⟩ := kfresh_ok hv (lo := lo) (hi := hi) e1 e2
      obtain ⟨ν2, y1, y2, y3, y4⟩ := stArg_ok x3 h.2
      exact ⟨ν2, x1.trans y1 x2, Nat.le_trans x2 y2, y3, ⟨Nat.lt_of_lt_of_le x4 y2, x, rfl, by dsimp only; rw [y1 _ x4, x5]⟩, y4⟩
    | tg + 1, h1 =>
      obtain ⟨ν2, y1, y2, y3, y4⟩ := stArg_ok hv h.2
      exact ⟨ν2, y1, y2, y3, h1, y4⟩
theorem stEs_ok {X : Scr} {σ σ0 : St} (h0 : IvOK σ0) : ∀ {l : List (Nat × Nat)} {K : Kn} {ν : Nat → Int}, vOK X ν K σ → ∃ ν', xt ν ν' (kN K) ∧ kN K ≤ kN (stEs K l).1 ∧ vOK X ν' (stEs K l).1 σ ∧ EsR ν' (kN (stEs K l).1) (stEs K l).2 σ0
  | [], K, ν, hv => ⟨ν, xt.rf, Nat.le_refl _, hv, fun q hq => by cases hq⟩
  | q :: t, K, ν, hv => by
    obtain ⟨ν1, x1, x2, x3, x4, x5, x6⟩ := kfresh_ok hv (h0 q.1 q.2).1 (h0 q.1 q.2).2
    obtain ⟨ν2, y1, y2, y3, y4⟩ := stEs_ok h0 (l := t) x3
    refine ⟨ν2, x1.trans y1 x2, Nat.le_trans x2 y2, y3, fun w hw => ?_⟩
    rcases List.mem_cons.mp hw with e | hw
    · rw [e]; exact ⟨Nat.lt_of_lt_of_le x4 y2, by dsimp only; rw [y1 _ x4, x5]⟩
    · exact y4 w hw
def lvP : List (Option ArgS) → Lv → Prop
  | [], [] => True
  | none :: t, _ :: u => lvP t u
  | some s :: t, some v :: u => argL s v ∧ lvP t u
  | _, _ => False
theorem lvP_of : ∀ {sp : List (Option ArgS)} {lvc : Lv}, lvS sp lvc → lvP sp lvc
  | [], [], _ => trivial
  | [], _ :: _, h => by cases h.1
  | _ :: _, [], h => by cases h.1
  | none :: t, v :: u, h => lvP_of (sp := t) (lvc := u) ⟨by simpa using h.1, fun i s hi => by simpa using h.2 (i + 1) s (by simpa using hi)⟩
  | some s :: t, v :: u, h => by
    obtain ⟨w, h1, h2⟩ := h.2 0 s (by simp)
    have e : v = some w := by simpa using h1
    subst e
    exact ⟨h2, lvP_of (sp := t) (lvc := u) ⟨by simpa using h.1, fun i s hi => by simpa using h.2 (i + 1) s (by simpa using hi)⟩⟩
theorem LvR.cons {ν : Nat → Int} {n : Nat} {lv : ALv} {lvc : Lv} (h : LvR ν n lv lvc) {a : Option AV} {b : Option Value} (hab : ∀ av, a = some av → ∃ v, b = some v ∧ AVR ν n av v) : LvR ν n (a :: lv) (b :: lvc) := by
  refine ⟨by simp [h.1], fun i av hi => ?_⟩
  match i, hi with
  | 0, hi =>
    have e : a = some av := by simpa using hi
    obtain ⟨v, e1, e2⟩ := hab av e
    exact ⟨v, by simp [e1], e2⟩
  | i + 1, hi => simpa using h.2 i av (by simpa using hi)
theorem stLv_ok {X : Scr} {σ : St} : ∀ {sp : List (Option ArgS)} {lvc : Lv} {K : Kn} {ν : Nat → Int}, vOK X ν K σ → lvP sp lvc → ∃ ν', xt ν ν' (kN K) ∧ kN K ≤ kN (stLv K sp).1 ∧ vOK X ν' (stLv K sp).1 σ ∧ LvR ν' (kN (stLv K sp).1) (stLv K sp).2 lvc
  | [], [], K, ν, hv, _ => ⟨ν, xt.rf, Nat.le_refl _, hv, LvR.no⟩
  | none :: t, v :: u, K, ν, hv, h => by
    have h : lvP t u := by cases v <;> exact h
    obtain ⟨ν2, y1, y2, y3, y4⟩ := stLv_ok hv h
    exact ⟨ν2, y1, y2, y3, y4.cons (fun av e => by cases e)⟩
  | some s :: t, some v :: u, K, ν, hv, h => by
    obtain ⟨tg, lo, hi⟩ := s
    match tg, h.1 with
    | 0, h1 =>
      obtain ⟨x, rfl, e1, e2⟩ := h1
      obtain ⟨ν1, x1, x2, x3, x4, x5, x6⟩ := kfresh_ok hv (lo := lo) (hi := hi) e1 e2
      obtain ⟨ν2, y1, y2, y3, y4⟩ := stLv_ok x3 h.2
      exact ⟨ν2, x1.trans y1 x2, Nat.le_trans x2 y2, y3, y4.cons (fun av e => by cases e; exact ⟨_, rfl, Nat.lt_of_lt_of_le x4 y2, x, rfl, by dsimp only; rw [y1 _ x4, x5]⟩)⟩
    | 1, h1 =>
      obtain ⟨x, rfl, e1, e2⟩ := h1
      obtain ⟨ν1, x1, x2, x3, x4, x5, x6⟩ := kfresh_ok hv (lo := lo) (hi := hi) e1 e2
      obtain ⟨ν2, y1, y2, y3, y4⟩ := stLv_ok x3 h.2
      exact ⟨ν2, x1.trans y1 x2, Nat.le_trans x2 y2, y3, y4.cons (fun av e => by cases e; exact ⟨_, rfl, Nat.lt_of_lt_of_le x4 y2, x, rfl, by dsimp only; rw [y1 _ x4, x5]⟩)⟩
    | 2, h1 =>
      obtain ⟨ν2, y1, y2, y3, y4⟩ := stLv_ok hv h.2
      exact ⟨ν2, y1, y2, y3, y4.cons (fun av e => by cases e; exact ⟨_, rfl, h1⟩)⟩
  | some _ :: _, none :: _, _, _, _, h => by cases h
  | [], _ :: _, _, _, _, h => by cases h
  | none :: _, [], _, _, _, h => by unfold lvP at h; cases h
  | some _ :: _, [], _, _, _, h => by unfold lvP at h; cases h
section Cuts
variable {ct : List Con} {con : Con} {cuts : List Cut} {X : Scr} {vs : List Value} {σ0 : St} {Q : Option Value → St → Prop}
theorem cuts_pw {n : Nat} {lw : Bool} (hct : ∀ c ∈ ct, Sat c) (hpost : ∀ (r : Option Value) (σ' : St), Inv σ' → FrM (cMd con) (cAm con) σ0 σ' → rkS (cY con) r → (∃ a ∈ cAl con, altS vs σ0 σ' r a) → Q r σ')
    (hk : cuts.all (chkCut ct con cuts n lw) = true) (h0 : Inv σ0) (ha : argsS (cAr con) vs) (hX : lw = true → ∃ (Ln : Nat) (xs : Nat → Int32), X = some (Ln, xs) ∧ vs[1]? = some (.int (Int32.ofNat Ln)) ∧ Ln < 2 ^ 31) :
    ∀ (w : Nat) (c : Cut), c ∈ cuts → ∀ (lvc : Lv) (σ : St), Inv σ → FrM (cMd con) (cAm con) σ0 σ → cutS vs σ0 c lvc σ → wtd 6 (mval vs σ0 σ lvc c.2.2.2.2.2) ≤ w → PW X (cY con) c.1 lvc [] σ Q := by
  intro w
  induction w using Nat.strongRecOn with
  | ind w ih =>
    intro c hc lvc σ hI hF hcs hw
    have hkc := List.all_eq_true.mp hk c hc
    obtain ⟨c1, c2, c3, c4⟩ := hcs
    unfold chkCut at hkc
    dsimp only at hkc
    rw [Bool.and_eq_true, Bool.and_eq_true, decide_eq_true_eq] at hkc
    obtain ⟨⟨k1, k2⟩, k3⟩ := hkc
    obtain ⟨ν1, x1, x2, x3, x4⟩ := stArg_ok (K0_ok (X := X) (g := c.2.2.2.2.1) c4) ha
    obtain ⟨ν2, y1, y2, y3, y4⟩ := stEs_ok h0.1 (l := cTk con) x3
    obtain ⟨ν3, z1, z2, z3, z4⟩ := stLv_ok y3 (lvP_of c1)
    split at k3
    · rename_i K1 hK1
      obtain ⟨ν4, a1, a2, a3, a4⟩ := asmSl_ok hK1 z3 hI.1 c2
      split at k3
      · rename_i K2 hK2
        have e1 : EaR ν1 (kN (stArg (K0 c.2.2.2.2.1) (cAr con)).1) (eaOf (stArg (K0 c.2.2.2.2.1) (cAr con)).2) vs := eaOf_ok x4
        have xa := (y1.trans z1 y2).trans a1 (Nat.le_trans y2 z2)
        have na := Nat.le_trans (Nat.le_trans y2 z2) a2
        have xe := z1.trans a1 z2
        have ne := Nat.le_trans z2 a2
        obtain ⟨ν5, b1, b2, b3, b4⟩ := asmFc_ok (r := none) hK2 a3 hI.1 (e1.mono xa na) (y4.mono xe ne) ReR.no (z4.mono a1 a2) c3
        split at k3
        · rename_i m hm
          obtain ⟨ν6, d1, d2, d3, d4, d5, d6⟩ := msym_ok (vs := vs) (σ0 := σ0) hm b3 hI.1 ((e1.mono xa na).mono b1 b2) ((y4.mono xe ne).mono b1 b2) ((z4.mono a1 a2).mono b1 b2)
          have xx := b1.trans d1 b2
          have nn := Nat.le_trans b2 d2
          have hbn := mval_bnd (vs := vs) (σ0 := σ0) (σ := σ) (lvc := lvc) k2
          have fin : ∀ scr : Option Nat, ScR X ν6 (kN m.1) scr → go ct con cuts (eaOf (stArg (K0 c.2.2.2.2.1) (cAr con)).2) (stEs (stArg (K0 c.2.2.2.2.1) (cAr con)).1 (cTk con)).2 (some m.2) scr n m.1 (cY con) c.1 (stLv (stEs (stArg (K0 c.2.2.2.2.1) (cAr con)).1 (cTk con)).1 c.2.1).2 [] [] true = true → PW X (cY con) c.1 lvc [] σ Q := by
            intro scr hscr hg
            refine go_sound (X := X) (vs := vs) (σ0 := σ0) (M0 := mval vs σ0 σ lvc c.2.2.2.2.2) hct hpost (fun c' hc' lvc' σ' hI' hF' hcs' hlt => ?_) n _ _ _ _ _ _ _ hg ν6 σ lvc [] [] ⟨d3, (z4.mono a1 a2).mono xx nn, trivial, trivial, rfl, hI, hF, (e1.mono xa na).mono xx nn, (y4.mono xe ne).mono xx nn, fun m' hm' => ?_, hscr⟩
            · have hkc' := List.all_eq_true.mp hk c' hc'
              unfold chkCut at hkc'
              dsimp only at hkc'
              rw [Bool.and_eq_true, Bool.and_eq_true, decide_eq_true_eq] at hkc'
              have hdec := wtd_dec 6 _ _ hbn (mval_bnd (vs := vs) (σ0 := σ0) (σ := σ') (lvc := lvc') hkc'.1.2) (by unfold mval; rw [List.length_map]; exact k1) (by unfold mval; rw [List.length_map]; exact hkc'.1.1) (hlt _ rfl)
              exact ih _ (Nat.lt_of_lt_of_le hdec hw) c' hc' lvc' σ' hI' hF' hcs' (Nat.le_refl _)
            · cases hm'
              exact ⟨d4, d5⟩
          split at k3
          · exact fin none (fun L hL => by cases hL) k3
          · rename_i L hL
            obtain ⟨Ln, xs, f1, f2, f3⟩ := hX rfl
            obtain ⟨g1, g2⟩ := ((e1.mono xa na).mono xx nn) 1 L hL
            refine fin (some L) (fun L' hL' => ?_) k3
            cases hL'
            rw [f2] at g2
            have g3 : (Int32.ofNat Ln).toInt = ν6 L := Option.some.inj g2
            rw [Int32.toInt_ofNat_of_lt f3] at g3
            exact ⟨Ln, xs, f1, g3.symm, f3, g1⟩
          · cases k3
        · cases k3
      · cases k3
    · cases k3
end Cuts
theorem sat_of {ct : List Con} {con : Con} {cuts : List Cut} {n : Nat} (hk : chkCon ct con cuts n = true) (hct : ∀ c ∈ ct, Sat c) : Sat con := by
  intro vs σ0 h0 ha hp hg
  unfold chkCon at hk
  rw [Bool.and_eq_true] at hk
  obtain ⟨k1, k2⟩ := hk
  have hpost : ∀ (r : Option Value) (σ' : St), Inv σ' → FrM (cMd con) (cAm con) σ0 σ' → rkS (cY con) r → (∃ a ∈ cAl con, altS vs σ0 σ' r a) → (fun r σ' => Inv σ' ∧ FrM (cMd con) (cAm con) σ0 σ' ∧ rkS (cY con) r ∧ ∃ a ∈ cAl con, altS vs σ0 σ' r a) r σ' := fun r σ' h1 h2 h3 h4 => ⟨h1, h2, h3, h4⟩
  unfold chkEntry at k1
  dsimp only at k1
  rw [Bool.and_eq_true, decide_eq_true_eq] at k1
  obtain ⟨k3, k4⟩ := k1
  obtain ⟨ν1, x1, x2, x3, x4⟩ := stArg_ok (K0_ok (X := none) (g := cGp con) hg) ha
  obtain ⟨ν2, y1, y2, y3, y4, y5⟩ := mkEs_ok (l := cTk con) x3 h0.1
  split at k4
  · rename_i K hK
    have e1 := (eaOf_ok x4).mono y1 y2
    obtain ⟨ν3, z1, z2, z3, z4⟩ := asmFc_ok (r := none) hK y3 h0.1 e1 y4 ReR.no LvR.no hp
    have hx4 := (x4.mono y1 y2).mono z1 z2
    exact go_sound (X := none) (vs := vs) (σ0 := σ0) (M0 := []) hct hpost (fun c hc lvc σ' hI' hF' hcs' _ => cuts_pw hct hpost k2 h0 ha (fun e => by cases e) _ c hc lvc σ' hI' hF' hcs' (Nat.le_refl _)) n _ _ _ _ _ _ _ k4 ν3 σ0 (ent (cY con) vs) [] [] ⟨z3, aent_ok hx4, trivial, trivial, rfl, h0, fun _ _ _ _ => rfl, e1.mono z1 z2, y4.mono z1 z2, (fun m hm => by cases hm), (fun L hL => by cases hL)⟩
  · cases k4
