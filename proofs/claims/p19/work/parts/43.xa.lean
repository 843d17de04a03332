/-! the state: cells of a standing, both ways -/
def cls (σ : St) (c : Nat) : Int32 := if c < 5 then σ 19 c else if c < 10 then σ 20 (c - 5) else σ 21 (c - 10)
def mu (c : Nat) : Nat := if c = 0 then 10 else if c = 1 then 13 else if c = 2 then 11 else if c = 3 then 12 else c - 5
theorem cls_ex {σ σ' : St} (h : ∀ k j, 19 ≤ k → k ≤ 21 → σ' k j = σ k j) (c : Nat) : cls σ' c = cls σ c := by
  unfold cls
  split
  · exact h _ _ (by omega) (by omega)
  · split
    · exact h _ _ (by omega) (by omega)
    · exact h _ _ (by omega) (by omega)
theorem mu_inj {c d : Nat} (hc : c < 15) (hd : d < 15) (h4 : ¬ c = 4) (g4 : ¬ d = 4) (h : mu c = mu d) : c = d := by
  unfold mu at h
  split at h <;> split at h <;> (try split at h) <;> (try split at h) <;> (try split at h) <;> (try split at h) <;> (try split at h) <;> (try split at h) <;> omega
theorem mu_lt {c : Nat} (hc : c < 15) (h4 : ¬ c = 4) : mu c < 14 := by
  unfold mu
  split
  · omega
  · split
    · omega
    · split
      · omega
      · split
        · omega
        · omega
theorem t15 {s : Nat} (hs : s < 16) : (Int32.ofNat s * 15).toInt = 15 * (s : Int) := by
  have l : (15 : Int32).toInt = 15 := rfl
  rw [ti_mul (by rw [ti_of (by omega), l]; omega) (by rw [ti_of (by omega), l]; omega), ti_of (by omega), l]
  omega
theorem t15a {s : Nat} (hs : s < 16) {i : Int32} {n : Nat} (h : i.toInt = (n : Int)) (hn : n ≤ 10) : (Int32.ofNat s * 15 + i).toInt = 15 * (s : Int) + n := by
  rw [ti_add (by rw [t15 hs]; omega) (by rw [t15 hs]; omega), t15 hs, h]
theorem t15c {s : Nat} (hs : s < 16) : (Int32.ofNat s * 15).toNatClampNeg = 15 * s := by rw [tc_ti, t15 hs]; omega
theorem t15b {s : Nat} (hs : s < 16) {i : Int32} {n : Nat} (h : i.toInt = (n : Int)) (hn : n ≤ 10) : (Int32.ofNat s * 15 + i).toNatClampNeg = 15 * s + n := by rw [tc_ti, t15a hs h hn]; omega
/-- put, on shelf 22 -/
theorem p_22 {σ : St} {s : Nat} {K : St → Prop} (hs : s < 16) (h0 : σ 22 0 = 16) (hK : ∀ σ', (∀ k j, ¬ k = 23 → σ' k j = σ k j) → (∀ j, σ' 23 j = if 15 * s ≤ j ∧ j < 15 * s + 15 then cls σ (j - 15 * s) else σ 23 j) → K σ') : CV 47 [.ref 22, .int (Int32.ofNat s), .ref 19] σ K := by
  have l0 : (0 : Int32).toInt = 0 := rfl
  have lm : (16 : Int32).toInt = 16 := rfl
  refine w_47_22 ?_
  rw [h0, if_neg (by rw [Int32.lt_iff_toInt_lt, ti_of (by omega), l0]; omega), if_pos (by rw [Int32.lt_iff_toInt_lt, ti_of (by omega), lm]; omega)]
  refine ⟨⟨by rw [t15 (by omega)]; omega, by rw [t15 (by omega)]; omega⟩, ⟨by rw [t15a (by omega) (n := 1) rfl (by omega)]; omega, by rw [t15a (by omega) (n := 1) rfl (by omega)]; omega⟩, ⟨by rw [t15a (by omega) (n := 2) rfl (by omega)]; omega, by rw [t15a (by omega) (n := 2) rfl (by omega)]; omega⟩, ⟨by rw [t15a (by omega) (n := 3) rfl (by omega)]; omega, by rw [t15a (by omega) (n := 3) rfl (by omega)]; omega⟩, ⟨by rw [t15a (by omega) (n := 4) rfl (by omega)]; omega, by rw [t15a (by omega) (n := 4) rfl (by omega)]; omega⟩, ⟨by decide, by rw [Int32.lt_iff_toInt_lt, t15a (by omega) (n := 5) rfl (by omega)]; show ¬ _ < (0 : Int); omega, by decide, by decide, by rw [t15b (by omega) (n := 5) rfl (by omega)]; omega⟩, ⟨by decide, by rw [Int32.lt_iff_toInt_lt, t15a (by omega) (n := 10) rfl (by omega)]; show ¬ _ < (0 : Int); omega, by decide, by decide, by rw [t15b (by omega) (n := 10) rfl (by omega)]; omega⟩, ?_⟩
  rw [t15c (s := s) (by omega), t15b (s := s) (by omega) (i := 1) (n := 1) rfl (by omega), t15b (s := s) (by omega) (i := 2) (n := 2) rfl (by omega), t15b (s := s) (by omega) (i := 3) (n := 3) rfl (by omega), t15b (s := s) (by omega) (i := 4) (n := 4) rfl (by omega), t15b (s := s) (by omega) (i := 5) (n := 5) rfl (by omega), t15b (s := s) (by omega) (i := 10) (n := 10) rfl (by omega)]
  refine hK _ (fun k j hk => ?_) (fun j => ?_)
  · rw [sr_ne _ _ hk, sr_ne _ _ hk, s2_ne _ _ (fun z => hk z.1), s2_ne _ _ (fun z => hk z.1), s2_ne _ _ (fun z => hk z.1), s2_ne _ _ (fun z => hk z.1), s2_ne _ _ (fun z => hk z.1)]
  · show (if 15 * s + 10 ≤ j ∧ j < 15 * s + 10 + 5 then σ 21 (0 + (j - (15 * s + 10))) else if 15 * s + 5 ≤ j ∧ j < 15 * s + 5 + 5 then σ 20 (0 + (j - (15 * s + 5))) else if j = 15 * s + 4 then σ 19 4 else if j = 15 * s + 3 then σ 19 3 else if j = 15 * s + 2 then σ 19 2 else if j = 15 * s + 1 then σ 19 1 else if j = 15 * s then σ 19 0 else σ 23 j) = _
    unfold cls
    by_cases c : 15 * s ≤ j ∧ j < 15 * s + 15
    · rw [if_pos c]
      by_cases c1 : 15 * s + 10 ≤ j
      · rw [if_pos ⟨c1, by omega⟩, if_neg (by omega), if_neg (by omega)]
        congr 1
        omega
      · rw [if_neg (by omega)]
        by_cases c2 : 15 * s + 5 ≤ j
        · rw [if_pos ⟨c2, by omega⟩, if_neg (by omega), if_pos (by omega)]
          congr 1
          omega
        · rw [if_neg (by omega), if_pos (show j - 15 * s < 5 by omega)]
          obtain ⟨r, hr, rfl⟩ : ∃ r, r < 5 ∧ j = 15 * s + r := ⟨j - 15 * s, by omega, by omega⟩
          have e : 15 * s + r - 15 * s = r := by omega
          rw [e]
          have cr : r = 0 ∨ r = 1 ∨ r = 2 ∨ r = 3 ∨ r = 4 := by omega
          rcases cr with rfl | rfl | rfl | rfl | rfl
          · rw [if_neg (by omega), if_neg (by omega), if_neg (by omega), if_neg (by omega), if_pos (by omega)]
          · rw [if_neg (by omega), if_neg (by omega), if_neg (by omega), if_pos (by omega)]
          · rw [if_neg (by omega), if_neg (by omega), if_pos (by omega)]
          · rw [if_neg (by omega), if_pos (by omega)]
          · rw [if_pos (by omega)]
    · rw [if_neg c, if_neg (by omega), if_neg (by omega), if_neg (by omega), if_neg (by omega), if_neg (by omega), if_neg (by omega), if_neg (by omega)]
/-- fetch, from shelf 22 -/
theorem f_22 {σ : St} {s : Nat} {K : St → Prop} (hs : s < 16) (h0 : σ 22 0 = 16) (hK : ∀ σ', (∀ k j, ¬ k = 19 → ¬ k = 20 → ¬ k = 21 → σ' k j = σ k j) → (∀ c, c < 15 → cls σ' c = σ 23 (15 * s + c)) → K σ') : CV 48 [.ref 22, .int (Int32.ofNat s), .ref 19] σ K := by
  have l0 : (0 : Int32).toInt = 0 := rfl
  have lm : (16 : Int32).toInt = 16 := rfl
  refine w_48_22 ?_
  rw [h0, if_neg (by rw [Int32.lt_iff_toInt_lt, ti_of (by omega), l0]; omega), if_pos (by rw [Int32.lt_iff_toInt_lt, ti_of (by omega), lm]; omega)]
  refine ⟨⟨by rw [t15 (by omega)]; omega, by rw [t15 (by omega)]; omega⟩, ⟨by rw [t15a (by omega) (n := 1) rfl (by omega)]; omega, by rw [t15a (by omega) (n := 1) rfl (by omega)]; omega⟩, ⟨by rw [t15a (by omega) (n := 2) rfl (by omega)]; omega, by rw [t15a (by omega) (n := 2) rfl (by omega)]; omega⟩, ⟨by rw [t15a (by omega) (n := 3) rfl (by omega)]; omega, by rw [t15a (by omega) (n := 3) rfl (by omega)]; omega⟩, ⟨by rw [t15a (by omega) (n := 4) rfl (by omega)]; omega, by rw [t15a (by omega) (n := 4) rfl (by omega)]; omega⟩, ⟨by rw [Int32.lt_iff_toInt_lt, t15a (by omega) (n := 5) rfl (by omega)]; show ¬ _ < (0 : Int); omega, by decide, by decide, by rw [t15b (by omega) (n := 5) rfl (by omega)]; omega, by decide⟩, ⟨by rw [Int32.lt_iff_toInt_lt, t15a (by omega) (n := 10) rfl (by omega)]; show ¬ _ < (0 : Int); omega, by decide, by decide, by rw [t15b (by omega) (n := 10) rfl (by omega)]; omega, by decide⟩, ?_⟩
  rw [t15c (s := s) (by omega), t15b (s := s) (by omega) (i := 1) (n := 1) rfl (by omega), t15b (s := s) (by omega) (i := 2) (n := 2) rfl (by omega), t15b (s := s) (by omega) (i := 3) (n := 3) rfl (by omega), t15b (s := s) (by omega) (i := 4) (n := 4) rfl (by omega), t15b (s := s) (by omega) (i := 5) (n := 5) rfl (by omega), t15b (s := s) (by omega) (i := 10) (n := 10) rfl (by omega)]
  refine hK _ (fun k j h1 h2 h3 => ?_) (fun c hc => ?_)
  · rw [sr_ne _ _ h3, sr_ne _ _ h2, s2_ne _ _ (fun z => h1 z.1), s2_ne _ _ (fun z => h1 z.1), s2_ne _ _ (fun z => h1 z.1), s2_ne _ _ (fun z => h1 z.1), s2_ne _ _ (fun z => h1 z.1)]
  · unfold cls
    by_cases c1 : c < 5
    · rw [if_pos c1]
      have cr : c = 0 ∨ c = 1 ∨ c = 2 ∨ c = 3 ∨ c = 4 := by omega
      rcases cr with rfl | rfl | rfl | rfl | rfl <;> rfl
    · rw [if_neg c1]
      by_cases c2 : c < 10
      · rw [if_pos c2]
        show va_cpy (σ 23) (σ 20) (15 * s + 5) 0 5 (c - 5) = _
        unfold va_cpy
        rw [if_pos ⟨Nat.zero_le _, by omega⟩]
        congr 1
        omega
      · rw [if_neg c2]
        show va_cpy (σ 23) (σ 21) (15 * s + 10) 0 5 (c - 10) = _
        unfold va_cpy
        rw [if_pos ⟨Nat.zero_le _, by omega⟩]
        congr 1
        omega
/-- put, on shelf 25 -/
theorem p_25 {σ : St} {s : Nat} {K : St → Prop} (hs : s < 2) (h0 : σ 25 0 = 2) (hK : ∀ σ', (∀ k j, ¬ k = 26 → σ' k j = σ k j) → (∀ j, σ' 26 j = if 15 * s ≤ j ∧ j < 15 * s + 15 then cls σ (j - 15 * s) else σ 26 j) → K σ') : CV 47 [.ref 25, .int (Int32.ofNat s), .ref 19] σ K := by
  have l0 : (0 : Int32).toInt = 0 := rfl
  have lm : (2 : Int32).toInt = 2 := rfl
  refine w_47_25 ?_
  rw [h0, if_neg (by rw [Int32.lt_iff_toInt_lt, ti_of (by omega), l0]; omega), if_pos (by rw [Int32.lt_iff_toInt_lt, ti_of (by omega), lm]; omega)]
  refine ⟨⟨by rw [t15 (by omega)]; omega, by rw [t15 (by omega)]; omega⟩, ⟨by rw [t15a (by omega) (n := 1) rfl (by omega)]; omega, by rw [t15a (by omega) (n := 1) rfl (by omega)]; omega⟩, ⟨by rw [t15a (by omega) (n := 2) rfl (by omega)]; omega, by rw [t15a (by omega) (n := 2) rfl (by omega)]; omega⟩, ⟨by rw [t15a (by omega) (n := 3) rfl (by omega)]; omega, by rw [t15a (by omega) (n := 3) rfl (by omega)]; omega⟩, ⟨by rw [t15a (by omega) (n := 4) rfl (by omega)]; omega, by rw [t15a (by omega) (n := 4) rfl (by omega)]; omega⟩, ⟨by decide, by rw [Int32.lt_iff_toInt_lt, t15a (by omega) (n := 5) rfl (by omega)]; show ¬ _ < (0 : Int); omega, by decide, by decide, by rw [t15b (by omega) (n := 5) rfl (by omega)]; omega⟩, ⟨by decide, by rw [Int32.lt_iff_toInt_lt, t15a (by omega) (n := 10) rfl (by omega)]; show ¬ _ < (0 : Int); omega, by decide, by decide, by rw [t15b (by omega) (n := 10) rfl (by omega)]; omega⟩, ?_⟩
  rw [t15c (s := s) (by omega), t15b (s := s) (by omega) (i := 1) (n := 1) rfl (by omega), t15b (s := s) (by omega) (i := 2) (n := 2) rfl (by omega), t15b (s := s) (by omega) (i := 3) (n := 3) rfl (by omega), t15b (s := s) (by omega) (i := 4) (n := 4) rfl (by omega), t15b (s := s) (by omega) (i := 5) (n := 5) rfl (by omega), t15b (s := s) (by omega) (i := 10) (n := 10) rfl (by omega)]
  refine hK _ (fun k j hk => ?_) (fun j => ?_)
  · rw [sr_ne _ _ hk, sr_ne _ _ hk, s2_ne _ _ (fun z => hk z.1), s2_ne _ _ (fun z => hk z.1), s2_ne _ _ (fun z => hk z.1), s2_ne _ _ (fun z => hk z.1), s2_ne _ _ (fun z => hk z.1)]
  · show (if 15 * s + 10 ≤ j ∧ j < 15 * s + 10 + 5 then σ 21 (0 + (j - (15 * s + 10))) else if 15 * s + 5 ≤ j ∧ j < 15 * s + 5 + 5 then σ 20 (0 + (j - (15 * s + 5))) else if j = 15 * s + 4 then σ 19 4 else if j = 15 * s + 3 then σ 19 3 else if j = 15 * s + 2 then σ 19 2 else if j = 15 * s + 1 then σ 19 1 else if j = 15 * s then σ 19 0 else σ 26 j) = _
    unfold cls
    by_cases c : 15 * s ≤ j ∧ j < 15 * s + 15
    · rw [if_pos c]
      by_cases c1 : 15 * s + 10 ≤ j
      · rw [if_pos ⟨c1, by omega⟩, if_neg (by omega), if_neg (by omega)]
        congr 1
        omega
      · rw [if_neg (by omega)]
        by_cases c2 : 15 * s + 5 ≤ j
        · rw [if_pos ⟨c2, by omega⟩, if_neg (by omega), if_pos (by omega)]
          congr 1
          omega
        · rw [if_neg (by omega), if_pos (show j - 15 * s < 5 by omega)]
          obtain ⟨r, hr, rfl⟩ : ∃ r, r < 5 ∧ j = 15 * s + r := ⟨j - 15 * s, by omega, by omega⟩
          have e : 15 * s + r - 15 * s = r := by omega
          rw [e]
          have cr : r = 0 ∨ r = 1 ∨ r = 2 ∨ r = 3 ∨ r = 4 := by omega
          rcases cr with rfl | rfl | rfl | rfl | rfl
          · rw [if_neg (by omega), if_neg (by omega), if_neg (by omega), if_neg (by omega), if_pos (by omega)]
          · rw [if_neg (by omega), if_neg (by omega), if_neg (by omega), if_pos (by omega)]
          · rw [if_neg (by omega), if_neg (by omega), if_pos (by omega)]
          · rw [if_neg (by omega), if_pos (by omega)]
          · rw [if_pos (by omega)]
    · rw [if_neg c, if_neg (by omega), if_neg (by omega), if_neg (by omega), if_neg (by omega), if_neg (by omega), if_neg (by omega), if_neg (by omega)]
/-- fetch, from shelf 25 -/
theorem f_25 {σ : St} {s : Nat} {K : St → Prop} (hs : s < 2) (h0 : σ 25 0 = 2) (hK : ∀ σ', (∀ k j, ¬ k = 19 → ¬ k = 20 → ¬ k = 21 → σ' k j = σ k j) → (∀ c, c < 15 → cls σ' c = σ 26 (15 * s + c)) → K σ') : CV 48 [.ref 25, .int (Int32.ofNat s), .ref 19] σ K := by
  have l0 : (0 : Int32).toInt = 0 := rfl
  have lm : (2 : Int32).toInt = 2 := rfl
  refine w_48_25 ?_
  rw [h0, if_neg (by rw [Int32.lt_iff_toInt_lt, ti_of (by omega), l0]; omega), if_pos (by rw [Int32.lt_iff_toInt_lt, ti_of (by omega), lm]; omega)]
  refine ⟨⟨by rw [t15 (by omega)]; omega, by rw [t15 (by omega)]; omega⟩, ⟨by rw [t15a (by omega) (n := 1) rfl (by omega)]; omega, by rw [t15a (by omega) (n := 1) rfl (by omega)]; omega⟩, ⟨by rw [t15a (by omega) (n := 2) rfl (by omega)]; omega, by rw [t15a (by omega) (n := 2) rfl (by omega)]; omega⟩, ⟨by rw [t15a (by omega) (n := 3) rfl (by omega)]; omega, by rw [t15a (by omega) (n := 3) rfl (by omega)]; omega⟩, ⟨by rw [t15a (by omega) (n := 4) rfl (by omega)]; omega, by rw [t15a (by omega) (n := 4) rfl (by omega)]; omega⟩, ⟨by rw [Int32.lt_iff_toInt_lt, t15a (by omega) (n := 5) rfl (by omega)]; show ¬ _ < (0 : Int); omega, by decide, by decide, by rw [t15b (by omega) (n := 5) rfl (by omega)]; omega, by decide⟩, ⟨by rw [Int32.lt_iff_toInt_lt, t15a (by omega) (n := 10) rfl (by omega)]; show ¬ _ < (0 : Int); omega, by decide, by decide, by rw [t15b (by omega) (n := 10) rfl (by omega)]; omega, by decide⟩, ?_⟩
  rw [t15c (s := s) (by omega), t15b (s := s) (by omega) (i := 1) (n := 1) rfl (by omega), t15b (s := s) (by omega) (i := 2) (n := 2) rfl (by omega), t15b (s := s) (by omega) (i := 3) (n := 3) rfl (by omega), t15b (s := s) (by omega) (i := 4) (n := 4) rfl (by omega), t15b (s := s) (by omega) (i := 5) (n := 5) rfl (by omega), t15b (s := s) (by omega) (i := 10) (n := 10) rfl (by omega)]
  refine hK _ (fun k j h1 h2 h3 => ?_) (fun c hc => ?_)
  · rw [sr_ne _ _ h3, sr_ne _ _ h2, s2_ne _ _ (fun z => h1 z.1), s2_ne _ _ (fun z => h1 z.1), s2_ne _ _ (fun z => h1 z.1), s2_ne _ _ (fun z => h1 z.1), s2_ne _ _ (fun z => h1 z.1)]
  · unfold cls
    by_cases c1 : c < 5
    · rw [if_pos c1]
      have cr : c = 0 ∨ c = 1 ∨ c = 2 ∨ c = 3 ∨ c = 4 := by omega
      rcases cr with rfl | rfl | rfl | rfl | rfl <;> rfl
    · rw [if_neg c1]
      by_cases c2 : c < 10
      · rw [if_pos c2]
        show va_cpy (σ 26) (σ 20) (15 * s + 5) 0 5 (c - 5) = _
        unfold va_cpy
        rw [if_pos ⟨Nat.zero_le _, by omega⟩]
        congr 1
        omega
      · rw [if_neg c2]
        show va_cpy (σ 26) (σ 21) (15 * s + 10) 0 5 (c - 10) = _
        unfold va_cpy
        rw [if_pos ⟨Nat.zero_le _, by omega⟩]
        congr 1
        omega
