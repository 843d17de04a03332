/-! takeRead -/
def tB (k : Nat) : Bool := Nat.ble 40 k && Nat.ble k 46
def tS (j : Nat) : Bool := Nat.beq j 0 || Nat.beq j 1 || Nat.beq j 5 || Nat.beq j 6 || Nat.beq j 9
def TR (σ0 σ : St) : Prop := (∀ k j : Nat, tB k = false → (k = 39 → tS j = false) → σ k j = σ0 k j) ∧ σ 39 0 = σ0 39 19 ∧ σ 39 1 = σ0 39 20 ∧ σ 39 6 = σ0 39 25 ∧ σ 39 9 = σ0 39 28
theorem TR.row {σ0 σ : St} (h : TR σ0 σ) {b : Nat} {f : Nat → Int32} (hb : tB b = true) : TR σ0 (sr σ b f) := by
  have ne : ∀ k, tB k = false → k ≠ b := fun k hk e => by rw [e, hb] at hk; cases hk
  obtain ⟨h1, h2, h3, h4, h5⟩ := h
  exact ⟨fun k j hk hj => by rw [sr_ne _ _ (ne k hk)]; exact h1 k j hk hj, by rw [sr_ne _ _ (ne 39 rfl)]; exact h2, by rw [sr_ne _ _ (ne 39 rfl)]; exact h3, by rw [sr_ne _ _ (ne 39 rfl)]; exact h4, by rw [sr_ne _ _ (ne 39 rfl)]; exact h5⟩
def O4 (σ0 σ : St) (s d : Nat) : Prop := ∀ j : Nat, σ d j = if j < (σ0 39 20).toInt.toNat then σ0 s j else σ0 d j
theorem O4.row {σ0 σ : St} {s d b : Nat} (h : O4 σ0 σ s d) {f : Nat → Int32} (hb : d ≠ b) : O4 σ0 (sr σ b f) s d := fun j => by rw [sr_ne _ _ hb]; exact h j
set_option maxRecDepth 20000 in
theorem pw_trz {σ0 : St} {Q : Option Value → St → Prop} (cont : ∀ (σ : St) (i : Int32), TR σ0 σ → O4 σ0 σ 48 40 → O4 σ0 σ 49 41 → PW none 131 151 [some (.ref 39), some (.int i)] [] σ Q) : ∀ (d i : Nat) (σ : St), i + d = 14 → TR σ0 σ → O4 σ0 σ 48 40 → O4 σ0 σ 49 41 → PW none 131 132 [some (.ref 39), some (.int (Int32.ofNat i))] [] σ Q := by
  intro d
  induction d with
  | zero =>
    intro i σ hi h1 h2 h3
    have e : i = 14 := by omega
    rw [e]
    refine PW.runs hw_131 rfl 2 (q := (132, [some (.ref 39), some (.int (Int32.ofNat 14))], [], σ)) (q' := (135, [some (.ref 39), some (.int (Int32.ofNat 14))], [.int 14, .int (Int32.ofNat 14)], σ)) rfl ?_
    exact PW.icm (t := 151) (ins_l hw_131 rfl) rfl (fun _ => cont σ _ h1 h2 h3) (fun c => absurd c (by decide))
  | succ d ih =>
    intro i σ hi h1 h2 h3
    refine PW.runs hw_131 rfl 2 (q := (132, [some (.ref 39), some (.int (Int32.ofNat i))], [], σ)) (q' := (135, [some (.ref 39), some (.int (Int32.ofNat i))], [.int 14, .int (Int32.ofNat i)], σ)) rfl ?_
    refine PW.icm (t := 151) (ins_l hw_131 rfl) rfl (fun c => ?_) (fun _ => ?_)
    · simp only [cnd, decide_eq_true_eq, Int32.le_iff_toInt_le] at c
      rw [ofNat_t (by omega)] at c
      have : (14 : Int32).toInt = 14 := rfl
      omega
    · refine PW.runs hw_131 rfl 4 (q := (138, [some (.ref 39), some (.int (Int32.ofNat i))], [], σ)) (q' := (144, [some (.ref 39), some (.int (Int32.ofNat i))], [.int 0, .int (Int32.ofNat i), .ref 46], σ)) rfl ?_
      refine PW.iast (n := 14) (ins_l hw_131 rfl) rfl (ofNat_in (by omega) (by omega)) ?_
      dsimp only
      generalize hσ : s2 σ 46 (Int32.ofNat i).toNatClampNeg 0 = σ'
      refine PW.runs hw_131 rfl 2 (q := (145, [some (.ref 39), some (.int (Int32.ofNat i))], [], σ')) (q' := (132, [some (.ref 39), some (.int (Int32.ofNat i + Int32.ofInt 1))], [], σ')) rfl ?_
      rw [ofNat_s, ← hσ]
      exact ih (i + 1) _ (by omega) (h1.row rfl) (h2.row (by decide)) (h3.row (by decide))
set_option maxRecDepth 20000 in
theorem pw_takeRead {σ0 : St} {Q : Option Value → St → Prop} (hI : Inv σ0) (cont : ∀ σ, TR σ0 σ → O4 σ0 σ 48 40 → O4 σ0 σ 49 41 → Q none σ) : PW none 131 0 (ent 131 [.ref 39]) [] σ0 Q := by
  have b20 : 0 ≤ (σ0 39 20).toInt ∧ (σ0 39 20).toInt ≤ 12 := hI.1 39 20
  have b25 : 0 ≤ (σ0 39 25).toInt ∧ (σ0 39 25).toInt ≤ 5 := hI.1 39 25
  have b28 : 0 ≤ (σ0 39 28).toInt ∧ (σ0 39 28).toInt ≤ 4 := hI.1 39 28
  refine PW.runs hw_131 rfl 20 (q := (0, [some (.ref 39), none], [], σ0)) (q' := (40, [some (.ref 39), none], [], (s2 (s2 (s2 (s2 (s2 σ0 39 0 (σ0 39 19)) 39 1 ((s2 σ0 39 0 (σ0 39 19)) 39 20)) 39 5 ((s2 (s2 σ0 39 0 (σ0 39 19)) 39 1 ((s2 σ0 39 0 (σ0 39 19)) 39 20)) 39 24)) 39 6 ((s2 (s2 (s2 σ0 39 0 (σ0 39 19)) 39 1 ((s2 σ0 39 0 (σ0 39 19)) 39 20)) 39 5 ((s2 (s2 σ0 39 0 (σ0 39 19)) 39 1 ((s2 σ0 39 0 (σ0 39 19)) 39 20)) 39 24)) 39 25)) 39 9 ((s2 (s2 (s2 (s2 σ0 39 0 (σ0 39 19)) 39 1 ((s2 σ0 39 0 (σ0 39 19)) 39 20)) 39 5 ((s2 (s2 σ0 39 0 (σ0 39 19)) 39 1 ((s2 σ0 39 0 (σ0 39 19)) 39 20)) 39 24)) 39 6 ((s2 (s2 (s2 σ0 39 0 (σ0 39 19)) 39 1 ((s2 σ0 39 0 (σ0 39 19)) 39 20)) 39 5 ((s2 (s2 σ0 39 0 (σ0 39 19)) 39 1 ((s2 σ0 39 0 (σ0 39 19)) 39 20)) 39 24)) 39 25)) 39 28)))) rfl ?_
  have hT : TR σ0 (s2 (s2 (s2 (s2 (s2 σ0 39 0 (σ0 39 19)) 39 1 ((s2 σ0 39 0 (σ0 39 19)) 39 20)) 39 5 ((s2 (s2 σ0 39 0 (σ0 39 19)) 39 1 ((s2 σ0 39 0 (σ0 39 19)) 39 20)) 39 24)) 39 6 ((s2 (s2 (s2 σ0 39 0 (σ0 39 19)) 39 1 ((s2 σ0 39 0 (σ0 39 19)) 39 20)) 39 5 ((s2 (s2 σ0 39 0 (σ0 39 19)) 39 1 ((s2 σ0 39 0 (σ0 39 19)) 39 20)) 39 24)) 39 25)) 39 9 ((s2 (s2 (s2 (s2 σ0 39 0 (σ0 39 19)) 39 1 ((s2 σ0 39 0 (σ0 39 19)) 39 20)) 39 5 ((s2 (s2 σ0 39 0 (σ0 39 19)) 39 1 ((s2 σ0 39 0 (σ0 39 19)) 39 20)) 39 24)) 39 6 ((s2 (s2 (s2 σ0 39 0 (σ0 39 19)) 39 1 ((s2 σ0 39 0 (σ0 39 19)) 39 20)) 39 5 ((s2 (s2 σ0 39 0 (σ0 39 19)) 39 1 ((s2 σ0 39 0 (σ0 39 19)) 39 20)) 39 24)) 39 25)) 39 28)) := by
    refine ⟨fun k j hk hj => ?_, ?_, ?_, ?_, ?_⟩
    · have hn : ∀ n, tS n = true → ¬ (k = 39 ∧ j = n) := fun n hn z => by have := hj z.1; rw [z.2, hn] at this; cases this
      rw [s2_ne _ _ (hn 9 rfl), s2_ne _ _ (hn 6 rfl), s2_ne _ _ (hn 5 rfl), s2_ne _ _ (hn 1 rfl), s2_ne _ _ (hn 0 rfl)]
    · simp [s2, sr, upd]
    · simp [s2, sr, upd]
    · simp [s2, sr, upd]
    · simp [s2, sr, upd]
  have h40 : ∀ j, (s2 (s2 (s2 (s2 (s2 σ0 39 0 (σ0 39 19)) 39 1 ((s2 σ0 39 0 (σ0 39 19)) 39 20)) 39 5 ((s2 (s2 σ0 39 0 (σ0 39 19)) 39 1 ((s2 σ0 39 0 (σ0 39 19)) 39 20)) 39 24)) 39 6 ((s2 (s2 (s2 σ0 39 0 (σ0 39 19)) 39 1 ((s2 σ0 39 0 (σ0 39 19)) 39 20)) 39 5 ((s2 (s2 σ0 39 0 (σ0 39 19)) 39 1 ((s2 σ0 39 0 (σ0 39 19)) 39 20)) 39 24)) 39 25)) 39 9 ((s2 (s2 (s2 (s2 σ0 39 0 (σ0 39 19)) 39 1 ((s2 σ0 39 0 (σ0 39 19)) 39 20)) 39 5 ((s2 (s2 σ0 39 0 (σ0 39 19)) 39 1 ((s2 σ0 39 0 (σ0 39 19)) 39 20)) 39 24)) 39 6 ((s2 (s2 (s2 σ0 39 0 (σ0 39 19)) 39 1 ((s2 σ0 39 0 (σ0 39 19)) 39 20)) 39 5 ((s2 (s2 σ0 39 0 (σ0 39 19)) 39 1 ((s2 σ0 39 0 (σ0 39 19)) 39 20)) 39 24)) 39 25)) 39 28)) 40 j = σ0 40 j := fun j => by simp [s2, sr, upd]
  have h41 : ∀ j, (s2 (s2 (s2 (s2 (s2 σ0 39 0 (σ0 39 19)) 39 1 ((s2 σ0 39 0 (σ0 39 19)) 39 20)) 39 5 ((s2 (s2 σ0 39 0 (σ0 39 19)) 39 1 ((s2 σ0 39 0 (σ0 39 19)) 39 20)) 39 24)) 39 6 ((s2 (s2 (s2 σ0 39 0 (σ0 39 19)) 39 1 ((s2 σ0 39 0 (σ0 39 19)) 39 20)) 39 5 ((s2 (s2 σ0 39 0 (σ0 39 19)) 39 1 ((s2 σ0 39 0 (σ0 39 19)) 39 20)) 39 24)) 39 25)) 39 9 ((s2 (s2 (s2 (s2 σ0 39 0 (σ0 39 19)) 39 1 ((s2 σ0 39 0 (σ0 39 19)) 39 20)) 39 5 ((s2 (s2 σ0 39 0 (σ0 39 19)) 39 1 ((s2 σ0 39 0 (σ0 39 19)) 39 20)) 39 24)) 39 6 ((s2 (s2 (s2 σ0 39 0 (σ0 39 19)) 39 1 ((s2 σ0 39 0 (σ0 39 19)) 39 20)) 39 5 ((s2 (s2 σ0 39 0 (σ0 39 19)) 39 1 ((s2 σ0 39 0 (σ0 39 19)) 39 20)) 39 24)) 39 25)) 39 28)) 41 j = σ0 41 j := fun j => by simp [s2, sr, upd]
  generalize (s2 (s2 (s2 (s2 (s2 σ0 39 0 (σ0 39 19)) 39 1 ((s2 σ0 39 0 (σ0 39 19)) 39 20)) 39 5 ((s2 (s2 σ0 39 0 (σ0 39 19)) 39 1 ((s2 σ0 39 0 (σ0 39 19)) 39 20)) 39 24)) 39 6 ((s2 (s2 (s2 σ0 39 0 (σ0 39 19)) 39 1 ((s2 σ0 39 0 (σ0 39 19)) 39 20)) 39 5 ((s2 (s2 σ0 39 0 (σ0 39 19)) 39 1 ((s2 σ0 39 0 (σ0 39 19)) 39 20)) 39 24)) 39 25)) 39 9 ((s2 (s2 (s2 (s2 σ0 39 0 (σ0 39 19)) 39 1 ((s2 σ0 39 0 (σ0 39 19)) 39 20)) 39 5 ((s2 (s2 σ0 39 0 (σ0 39 19)) 39 1 ((s2 σ0 39 0 (σ0 39 19)) 39 20)) 39 24)) 39 6 ((s2 (s2 (s2 σ0 39 0 (σ0 39 19)) 39 1 ((s2 σ0 39 0 (σ0 39 19)) 39 20)) 39 5 ((s2 (s2 σ0 39 0 (σ0 39 19)) 39 1 ((s2 σ0 39 0 (σ0 39 19)) 39 20)) 39 24)) 39 25)) 39 28)) = σ1 at hT h40 h41 ⊢
  refine PW.runs hw_131 rfl 6 (q := (40, [some (.ref 39), none], [], σ1)) (q' := (52, [some (.ref 39), none], [.int (σ1 39 1), .ref 40, .ref 48], σ1)) rfl ?_
  refine PW.callS (vs := [.ref 48, .ref 40, .int (σ1 39 1)]) (rest := []) (ins_l hw_131 rfl) rfl (Or.inl rfl) rfl (Nat.le_of_ble_eq_true rfl) (Nat.le_of_ble_eq_true rfl) ?_
  refine pw_copyRow (na := 12) (nb := 12) rfl rfl (by decide) (by rw [hT.2.2.1]; omega) (by rw [hT.2.2.1]; omega) (by rw [hT.2.2.1]; omega) ?_
  have hT0 : TR σ0 (cpR σ1 48 40 0 (σ1 39 1).toInt.toNat) := hT.row rfl
  have hA : O4 σ0 (cpR σ1 48 40 0 (σ1 39 1).toInt.toNat) 48 40 := fun j => by
    unfold cpR
    rw [sr_self, hT.2.2.1, hT.1 48 j rfl (fun e => by cases e), h40 j]
    simp
  generalize hσ0 : cpR σ1 48 40 0 (σ1 39 1).toInt.toNat = σ2 at hT0 hA ⊢
  have h41k : ∀ j, σ2 41 j = σ0 41 j := fun j => by rw [← hσ0]; unfold cpR; rw [sr_ne _ _ (by decide)]; exact h41 j
  replace hT := hT0
  refine PW.runs hw_131 rfl 6 (q := (55, [some (.ref 39), none], [], σ2)) (q' := (67, [some (.ref 39), none], [.int (σ2 39 1), .ref 41, .ref 49], σ2)) rfl ?_
  refine PW.callS (vs := [.ref 49, .ref 41, .int (σ2 39 1)]) (rest := []) (ins_l hw_131 rfl) rfl (Or.inl rfl) rfl (Nat.le_of_ble_eq_true rfl) (Nat.le_of_ble_eq_true rfl) ?_
  refine pw_copyRow (na := 12) (nb := 12) rfl rfl (by decide) (by rw [hT.2.2.1]; omega) (by rw [hT.2.2.1]; omega) (by rw [hT.2.2.1]; omega) ?_
  have hT1 : TR σ0 (cpR σ2 49 41 0 (σ2 39 1).toInt.toNat) := hT.row rfl
  have hB : O4 σ0 (cpR σ2 49 41 0 (σ2 39 1).toInt.toNat) 49 41 := fun j => by
    unfold cpR
    rw [sr_self, hT.2.2.1, hT.1 49 j rfl (fun e => by cases e), h41k j]
    simp
  have hA1 : O4 σ0 (cpR σ2 49 41 0 (σ2 39 1).toInt.toNat) 48 40 := hA.row (by decide)
  generalize hσ1 : cpR σ2 49 41 0 (σ2 39 1).toInt.toNat = σ3 at hT1 hA1 hB ⊢
  replace hT := hT1
  replace hA := hA1
  refine PW.runs hw_131 rfl 6 (q := (70, [some (.ref 39), none], [], σ3)) (q' := (82, [some (.ref 39), none], [.int (σ3 39 1), .ref 42, .ref 50], σ3)) rfl ?_
  refine PW.callS (vs := [.ref 50, .ref 42, .int (σ3 39 1)]) (rest := []) (ins_l hw_131 rfl) rfl (Or.inl rfl) rfl (Nat.le_of_ble_eq_true rfl) (Nat.le_of_ble_eq_true rfl) ?_
  refine pw_copyRow (na := 12) (nb := 12) rfl rfl (by decide) (by rw [hT.2.2.1]; omega) (by rw [hT.2.2.1]; omega) (by rw [hT.2.2.1]; omega) ?_
  have hT2 : TR σ0 (cpR σ3 50 42 0 (σ3 39 1).toInt.toNat) := hT.row rfl
  have hA2 : O4 σ0 (cpR σ3 50 42 0 (σ3 39 1).toInt.toNat) 48 40 := hA.row (by decide)
  have hB2 : O4 σ0 (cpR σ3 50 42 0 (σ3 39 1).toInt.toNat) 49 41 := hB.row (by decide)
  generalize hσ2 : cpR σ3 50 42 0 (σ3 39 1).toInt.toNat = σ4 at hT2 hA2 hB2 ⊢
  replace hT := hT2
  replace hA := hA2
  replace hB := hB2
  refine PW.runs hw_131 rfl 6 (q := (85, [some (.ref 39), none], [], σ4)) (q' := (97, [some (.ref 39), none], [.int (σ4 39 6), .ref 43, .ref 51], σ4)) rfl ?_
  refine PW.callS (vs := [.ref 51, .ref 43, .int (σ4 39 6)]) (rest := []) (ins_l hw_131 rfl) rfl (Or.inl rfl) rfl (Nat.le_of_ble_eq_true rfl) (Nat.le_of_ble_eq_true rfl) ?_
  refine pw_copyRow (na := 5) (nb := 5) rfl rfl (by decide) (by rw [hT.2.2.2.1]; omega) (by rw [hT.2.2.2.1]; omega) (by rw [hT.2.2.2.1]; omega) ?_
  have hT3 : TR σ0 (cpR σ4 51 43 0 (σ4 39 6).toInt.toNat) := hT.row rfl
  have hA3 : O4 σ0 (cpR σ4 51 43 0 (σ4 39 6).toInt.toNat) 48 40 := hA.row (by decide)
  have hB3 : O4 σ0 (cpR σ4 51 43 0 (σ4 39 6).toInt.toNat) 49 41 := hB.row (by decide)
  generalize hσ3 : cpR σ4 51 43 0 (σ4 39 6).toInt.toNat = σ5 at hT3 hA3 hB3 ⊢
  replace hT := hT3
  replace hA := hA3
  replace hB := hB3
  refine PW.runs hw_131 rfl 6 (q := (100, [some (.ref 39), none], [], σ5)) (q' := (112, [some (.ref 39), none], [.int (σ5 39 6), .ref 44, .ref 52], σ5)) rfl ?_
  refine PW.callS (vs := [.ref 52, .ref 44, .int (σ5 39 6)]) (rest := []) (ins_l hw_131 rfl) rfl (Or.inl rfl) rfl (Nat.le_of_ble_eq_true rfl) (Nat.le_of_ble_eq_true rfl) ?_
  refine pw_copyRow (na := 5) (nb := 5) rfl rfl (by decide) (by rw [hT.2.2.2.1]; omega) (by rw [hT.2.2.2.1]; omega) (by rw [hT.2.2.2.1]; omega) ?_
  have hT4 : TR σ0 (cpR σ5 52 44 0 (σ5 39 6).toInt.toNat) := hT.row rfl
  have hA4 : O4 σ0 (cpR σ5 52 44 0 (σ5 39 6).toInt.toNat) 48 40 := hA.row (by decide)
  have hB4 : O4 σ0 (cpR σ5 52 44 0 (σ5 39 6).toInt.toNat) 49 41 := hB.row (by decide)
  generalize hσ4 : cpR σ5 52 44 0 (σ5 39 6).toInt.toNat = σ6 at hT4 hA4 hB4 ⊢
  replace hT := hT4
  replace hA := hA4
  replace hB := hB4
  refine PW.runs hw_131 rfl 6 (q := (115, [some (.ref 39), none], [], σ6)) (q' := (127, [some (.ref 39), none], [.int (σ6 39 9), .ref 45, .ref 53], σ6)) rfl ?_
  refine PW.callS (vs := [.ref 53, .ref 45, .int (σ6 39 9)]) (rest := []) (ins_l hw_131 rfl) rfl (Or.inl rfl) rfl (Nat.le_of_ble_eq_true rfl) (Nat.le_of_ble_eq_true rfl) ?_
  refine pw_copyRow (na := 4) (nb := 4) rfl rfl (by decide) (by rw [hT.2.2.2.2]; omega) (by rw [hT.2.2.2.2]; omega) (by rw [hT.2.2.2.2]; omega) ?_
  have hT5 : TR σ0 (cpR σ6 53 45 0 (σ6 39 9).toInt.toNat) := hT.row rfl
  have hA5 : O4 σ0 (cpR σ6 53 45 0 (σ6 39 9).toInt.toNat) 48 40 := hA.row (by decide)
  have hB5 : O4 σ0 (cpR σ6 53 45 0 (σ6 39 9).toInt.toNat) 49 41 := hB.row (by decide)
  generalize hσ5 : cpR σ6 53 45 0 (σ6 39 9).toInt.toNat = σ7 at hT5 hA5 hB5 ⊢
  replace hT := hT5
  replace hA := hA5
  replace hB := hB5
  refine PW.runs hw_131 rfl 2 (q := (130, [some (.ref 39), none], [], σ7)) (q' := (132, [some (.ref 39), some (.int (Int32.ofNat 0))], [], σ7)) rfl ?_
  refine pw_trz (σ0 := σ0) (fun σ i hT hA hB => ?_) 14 0 σ7 (by omega) hT hA hB
  refine PW.runs hw_131 rfl 6 (q := (151, [some (.ref 39), some (.int i)], [], σ)) (q' := (163, [some (.ref 39), some (.int i)], [.int (σ 39 6), .ref 46, .ref 44], σ)) rfl ?_
  refine PW.callS (vs := [.ref 44, .ref 46, .int (σ 39 6)]) (rest := []) (ins_l hw_131 rfl) rfl (Or.inl rfl) rfl (Nat.le_of_ble_eq_true rfl) (Nat.le_of_ble_eq_true rfl) ?_
  refine pw_copyRow (na := 5) (nb := 14) rfl rfl (by decide) (by rw [hT.2.2.2.1]; omega) (by rw [hT.2.2.2.1]; omega) (by rw [hT.2.2.2.1]; omega) ?_
  have k1 : TR σ0 (cpR σ 44 46 0 (σ 39 6).toInt.toNat) := hT.row rfl
  have k2 : O4 σ0 (cpR σ 44 46 0 (σ 39 6).toInt.toNat) 48 40 := hA.row (by decide)
  have k3 : O4 σ0 (cpR σ 44 46 0 (σ 39 6).toInt.toNat) 49 41 := hB.row (by decide)
  generalize cpR σ 44 46 0 (σ 39 6).toInt.toNat = σ9 at k1 k2 k3 ⊢
  refine PW.runs hw_131 rfl 5 (q := (166, [some (.ref 39), some (.int i)], [], σ9)) (q' := (176, [some (.ref 39), some (.int i)], [.int (σ9 39 5), .int 10, .ref 46], σ9)) rfl ?_
  refine PW.iast (n := 14) (ins_l hw_131 rfl) rfl (by decide) ?_
  exact PW.vret (ins_l hw_131 rfl) rfl (cont _ (k1.row rfl) (k2.row (by decide)) (k3.row (by decide)))
