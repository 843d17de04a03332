/-! the contracts by hand -/
theorem argsS_cons {s : ArgS} {t : List ArgS} {vs : List Value} (h : argsS (s :: t) vs) : ∃ v u, vs = v :: u ∧ argS s v ∧ argsS t u := by
  match vs, h with
  | v :: u, h => exact ⟨v, u, rfl, h.1, h.2⟩
theorem argsS_nil {vs : List Value} (h : argsS [] vs) : vs = [] := by
  match vs, h with
  | [], _ => rfl
theorem sat_75 : Sat con_75 := by
  intro vs σ hI ha _ _
  obtain ⟨v0, u0, rfl, h0, hb1⟩ := argsS_cons ha
  obtain ⟨v1, u1, rfl, ⟨n, rfl, -, -⟩, hb2⟩ := argsS_cons hb1
  obtain ⟨v2, u2, rfl, ⟨q, rfl, -, -⟩, hb3⟩ := argsS_cons hb2
  cases argsS_nil hb3
  cases (show v0 = Value.ref 0 from h0)
  refine pw_quiet76 ⟨hI, fun _ _ _ _ => rfl, ⟨(fun e => by cases e), fun _ => ⟨_, rfl⟩⟩, _, List.mem_cons_self, fun x hx => ?_, fun q hq => absurd hq List.not_mem_nil, fun f hf => absurd hf List.not_mem_nil, (fun e => by cases e)⟩
  cases hx
  have hr := rng32 (qF n q)
  refine ⟨hr.1, hr.2, fun t ht i j e1 e2 => ?_⟩
  cases ht
  cases e1
  cases e2
  rfl
theorem sat_133 : Sat con_133 := by
  intro vs σ hI ha _ _
  obtain ⟨v0, u0, rfl, h0, hb4⟩ := argsS_cons ha
  obtain ⟨v1, u1, rfl, ⟨n, rfl, -, -⟩, hb5⟩ := argsS_cons hb4
  obtain ⟨v2, u2, rfl, ⟨q, rfl, -, -⟩, hb6⟩ := argsS_cons hb5
  cases argsS_nil hb6
  cases (show v0 = Value.ref 39 from h0)
  refine pw_quiet183 ⟨hI, fun _ _ _ _ => rfl, ⟨(fun e => by cases e), fun _ => ⟨_, rfl⟩⟩, _, List.mem_cons_self, fun x hx => ?_, fun q hq => absurd hq List.not_mem_nil, fun f hf => absurd hf List.not_mem_nil, (fun e => by cases e)⟩
  cases hx
  have hr := rng32 (qF n q)
  refine ⟨hr.1, hr.2, fun t ht i j e1 e2 => ?_⟩
  cases ht
  cases e1
  cases e2
  rfl
theorem iv_54 (j : Nat) : iv 54 j = (lo32, hi32) := rfl
theorem iv_55 (j : Nat) : iv 55 j = (lo32, hi32) := rfl
theorem sat_95 : Sat con_95 := by
  intro vs σ hI ha hp _
  obtain ⟨v0, u0, rfl, h0, hb7⟩ := argsS_cons ha
  obtain ⟨v1, u1, rfl, ⟨a, rfl, a1, a2⟩, hb8⟩ := argsS_cons hb7
  obtain ⟨v2, u2, rfl, ⟨b, rfl, b1, b2⟩, hb9⟩ := argsS_cons hb8
  obtain ⟨v3, u3, rfl, ⟨w, rfl, -, -⟩, hb10⟩ := argsS_cons hb9
  cases argsS_nil hb10
  cases (show v0 = Value.ref 39 from h0)
  have q1 : a.toInt + 1 ≤ (σ 39 0).toInt := hp _ List.mem_cons_self _ _ rfl rfl
  have q2 : b.toInt + 1 ≤ (σ 39 0).toInt := hp _ (List.mem_cons_of_mem _ List.mem_cons_self) _ _ rfl rfl
  refine pw_findWay hI a1 (by omega) b1 (by omega) (fun σ' r hF r1 r2 => ⟨⟨fun k j => ?_, fun l hl => ?_⟩, fun k j _ hk => ?_, ⟨(fun e => by cases e), fun _ => ⟨_, rfl⟩⟩, _, List.mem_cons_self, fun x hx => ?_, fun q hq => absurd hq List.not_mem_nil, fun f hf => absurd hf List.not_mem_nil, (fun e => by cases e)⟩)
  · by_cases e1 : k = 54
    · rw [e1, iv_54]; exact rng32 _
    · by_cases e2 : k = 55
      · rw [e2, iv_55]; exact rng32 _
      · rw [hF k j e1 e2]; exact hI.1 k j
  · have h1 : σ' qO qL = σ qO qL := hF 39 1 (by decide) (by decide)
    have h2 : σ' qO qP = σ qO qP := hF 39 0 (by decide) (by decide)
    have h3 : σ' qA l = σ qA l := hF 40 l (by decide) (by decide)
    have h4 : σ' qB l = σ qB l := hF 41 l (by decide) (by decide)
    rw [h1] at hl
    rw [h2, h3, h4]
    exact hI.2 l hl
  · exact hF k j (fun e => by rw [e] at hk; cases hk) (fun e => by rw [e] at hk; cases hk)
  · cases hx
    exact ⟨r1, r2, (fun t ht => by cases ht)⟩
theorem iv_row {k : Nat} (h : k = 42 ∨ k = 43 ∨ k = 44 ∨ k = 45 ∨ k = 46) (j : Nat) : iv k j = (lo32, hi32) := by
  rcases h with h | h | h | h | h <;> subst h <;> rfl
theorem sat_90 : Sat con_90 := by
  intro vs σ hI ha hp hg
  obtain ⟨v0, u0, rfl, h0, hb11⟩ := argsS_cons ha
  cases argsS_nil hb11
  cases (show v0 = Value.ref 39 from h0)
  have q8 : (σ 39 19).toInt + 0 ≤ 8 := hp _ List.mem_cons_self _ _ rfl rfl
  have rq : RQ σ := hg rfl
  have p0 : 0 ≤ (σ 39 19).toInt := (hI.1 39 19).1
  have l0 : 0 ≤ (σ 39 20).toInt := (hI.1 39 20).1
  refine pw_takeRead hI (fun σ' hT hA hB => ⟨⟨fun k j => ?_, fun l hl => ?_⟩, fun k j hm ha => ?_, ⟨fun _ => rfl, fun e => absurd rfl e⟩, _, List.mem_cons_self, (fun x hx => by cases hx), fun q hq => absurd hq List.not_mem_nil, fun f hf => absurd hf List.not_mem_nil, (fun e => by cases e)⟩)
  · by_cases c : tB k = true
    · unfold tB at c
      rw [Bool.and_eq_true] at c
      have c1 := Nat.le_of_ble_eq_true c.1
      have c2 := Nat.le_of_ble_eq_true c.2
      by_cases k0 : k = 40
      · subst k0
        rw [hA j]
        split
        · rename_i hj
          have r := (rq j (by show (j : Int) < (σ 39 20).toInt; omega)).1
          have r : (σ 48 j).toInt < (σ 39 19).toInt := r
          have r0 : 0 ≤ (σ 48 j).toInt := (hI.1 48 j).1
          exact ⟨r0, by show (σ 48 j).toInt ≤ 7; omega⟩
        · exact hI.1 40 j
      · by_cases k1 : k = 41
        · subst k1
          rw [hB j]
          split
          · rename_i hj
            have r := (rq j (by show (j : Int) < (σ 39 20).toInt; omega)).2
            have r : (σ 49 j).toInt < (σ 39 19).toInt := r
            have r0 : 0 ≤ (σ 49 j).toInt := (hI.1 49 j).1
            exact ⟨r0, by show (σ 49 j).toInt ≤ 7; omega⟩
          · exact hI.1 41 j
        · rw [iv_row (by omega)]
          exact rng32 _
    · rw [Bool.not_eq_true] at c
      by_cases k39 : k = 39
      · subst k39
        by_cases d : tS j = true
        · unfold tS at d
          rw [Bool.or_eq_true, Bool.or_eq_true, Bool.or_eq_true, Bool.or_eq_true] at d
          rcases d with (((d | d) | d) | d) | d
          · have e := Nat.eq_of_beq_eq_true d
            subst e
            rw [hT.2.1]
            exact ⟨p0, by show (σ 39 19).toInt ≤ 8; omega⟩
          · have e := Nat.eq_of_beq_eq_true d
            subst e
            rw [hT.2.2.1]
            exact hI.1 39 20
          · have e := Nat.eq_of_beq_eq_true d
            subst e
            exact rng32 _
          · have e := Nat.eq_of_beq_eq_true d
            subst e
            rw [hT.2.2.2.1]
            exact hI.1 39 25
          · have e := Nat.eq_of_beq_eq_true d
            subst e
            rw [hT.2.2.2.2]
            exact hI.1 39 28
        · rw [Bool.not_eq_true] at d
          rw [hT.1 39 j c (fun _ => d)]
          exact hI.1 39 j
      · rw [hT.1 k j c (fun e => absurd e k39)]
        exact hI.1 k j
  · have e1 : σ' qO qL = σ 39 20 := hT.2.2.1
    have e2 : σ' qO qP = σ 39 19 := hT.2.1
    rw [e1] at hl
    have e3 : σ' qA l = σ 48 l := by
      have := hA l
      rw [if_pos (by omega)] at this
      exact this
    have e4 : σ' qB l = σ 49 l := by
      have := hB l
      rw [if_pos (by omega)] at this
      exact this
    rw [e2, e3, e4]
    exact rq l hl
  · refine hT.1 k j ?_ (fun e => ?_)
    · cases hb : tB k with
      | false => rfl
      | true =>
        exfalso
        unfold tB at hb
        rw [Bool.and_eq_true] at hb
        have c1 := Nat.le_of_ble_eq_true hb.1
        have c2 := Nat.le_of_ble_eq_true hb.2
        have : k = 40 ∨ k = 41 ∨ k = 42 ∨ k = 43 ∨ k = 44 ∨ k = 45 ∨ k = 46 := by omega
        rcases this with e | e | e | e | e | e | e <;> subst e <;> cases ha
    · cases hb : tS j with
      | false => rfl
      | true =>
        exfalso
        subst e
        unfold tS at hb
        rw [Bool.or_eq_true, Bool.or_eq_true, Bool.or_eq_true, Bool.or_eq_true] at hb
        rcases hb with (((d | d) | d) | d) | d <;> have e := Nat.eq_of_beq_eq_true d <;> subst e <;> cases hm
