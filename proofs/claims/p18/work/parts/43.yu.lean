/-! least: subsets, one after the other -/
theorem and_2 (a b : Nat) : a &&& b = 2 * (a / 2 &&& b / 2) + (if a % 2 = 1 ∧ b % 2 = 1 then 1 else 0) := by
  have h1 : (a &&& b) / 2 = a / 2 &&& b / 2 := Nat.and_div_two
  have h2 : (a &&& b) % 2 = 1 ↔ a % 2 = 1 ∧ b % 2 = 1 := Nat.and_mod_two_eq_one
  rw [← h1]
  generalize a &&& b = z at h2 ⊢
  by_cases c : a % 2 = 1 ∧ b % 2 = 1
  · rw [if_pos c]
    have := h2.mpr c
    omega
  · rw [if_neg c]
    have : ¬ z % 2 = 1 := fun y => c (h2.mp y)
    omega
theorem sb_half {s l : Nat} (h : s &&& l = s) : s / 2 &&& l / 2 = s / 2 ∧ (s % 2 = 1 → l % 2 = 1) := by
  have h1 : (s &&& l) / 2 = s / 2 &&& l / 2 := Nat.and_div_two
  have h2 : (s &&& l) % 2 = 1 ↔ s % 2 = 1 ∧ l % 2 = 1 := Nat.and_mod_two_eq_one
  rw [h] at h1 h2
  exact ⟨h1.symm, fun z => (h2.mp z).2⟩
theorem sb_q : ∀ (k l t : Nat), l < 2 ^ k → t &&& l = t → (t + (2 ^ k - 1 - l)) &&& l = t
  | 0, l, t, hl, ht => by
    have l0 : l = 0 := by rw [Nat.pow_zero] at hl; omega
    subst l0
    rw [Nat.and_zero] at ht ⊢
    exact ht
  | k + 1, l, t, hl, ht => by
    obtain ⟨h1, h2⟩ := sb_half ht
    have hp : 2 ^ (k + 1) = 2 * 2 ^ k := by rw [Nat.pow_succ]; omega
    rw [hp] at hl ⊢
    have ih := sb_q k (l / 2) (t / 2) (by omega) h1
    generalize 2 ^ k = A at hl ih ⊢
    have e1 : (t + (2 * A - 1 - l)) / 2 = t / 2 + (A - 1 - l / 2) := by omega
    rw [and_2, e1, ih]
    by_cases c : (t + (2 * A - 1 - l)) % 2 = 1 ∧ l % 2 = 1
    · rw [if_pos c]; omega
    · rw [if_neg c]; omega
def rkk : Nat → Nat → Nat → Nat
  | 0, _, _ => 0
  | k + 1, l, s => if l % 2 = 1 then 2 * rkk k (l / 2) (s / 2) + s % 2 else rkk k (l / 2) (s / 2)
def ppk : Nat → Nat → Nat
  | 0, _ => 0
  | k + 1, l => ppk k (l / 2) + l % 2
theorem rkk_0 : ∀ k l, rkk k l 0 = 0
  | 0, _ => rfl
  | k + 1, l => by
    show (if l % 2 = 1 then 2 * rkk k (l / 2) (0 / 2) + 0 % 2 else rkk k (l / 2) (0 / 2)) = 0
    rw [show 0 / 2 = 0 from rfl, rkk_0 k (l / 2)]
    split <;> rfl
theorem sb_main : ∀ (k l s : Nat), l < 2 ^ k → s &&& l = s → rkk k l s < 2 ^ ppk k l ∧ (s = l → rkk k l s + 1 = 2 ^ ppk k l) ∧ (s < l → s < ((s + (2 ^ k - l)) &&& l) ∧ rkk k l ((s + (2 ^ k - l)) &&& l) = rkk k l s + 1 ∧ ∀ u, u &&& l = u → s < u → ((s + (2 ^ k - l)) &&& l) ≤ u)
  | 0, l, s, hl, hs => by
    have l0 : l = 0 := by rw [Nat.pow_zero] at hl; omega
    subst l0
    rw [Nat.and_zero] at hs
    subst hs
    exact ⟨by decide, fun _ => rfl, fun z => absurd z (Nat.lt_irrefl 0)⟩
  | k + 1, l, s, hl, hs => by
    obtain ⟨h1, h2⟩ := sb_half hs
    have hp : 2 ^ (k + 1) = 2 * 2 ^ k := by rw [Nat.pow_succ]; omega
    rw [hp] at hl ⊢
    obtain ⟨i1, i2, i3⟩ := sb_main k (l / 2) (s / 2) (by omega) h1
    have q := sb_q k (l / 2) (s / 2) (by omega) h1
    have ek : ∀ x, rkk (k + 1) l x = if l % 2 = 1 then 2 * rkk k (l / 2) (x / 2) + x % 2 else rkk k (l / 2) (x / 2) := fun _ => rfl
    have ep : ppk (k + 1) l = ppk k (l / 2) + l % 2 := rfl
    have eu : ∀ u, u &&& l = u → u / 2 &&& l / 2 = u / 2 := fun u hu => (sb_half hu).1
    have sl : s ≤ l := by rw [← hs]; exact Nat.and_le_right
    generalize hA : 2 ^ k = A at hl i3 q ⊢
    rw [ek s, ep, and_2]
    by_cases b : l % 2 = 1
    · rw [if_pos b, b, Nat.pow_succ]
      refine ⟨by omega, fun e => ?_, fun lt => ?_⟩
      · have := i2 (by omega)
        omega
      · by_cases c : s % 2 = 1
        · have e1 : (s + (2 * A - l)) / 2 = s / 2 + (A - l / 2) := by omega
          have e2 : ¬ ((s + (2 * A - l)) % 2 = 1 ∧ True) := by omega
          obtain ⟨j1, j2, j3⟩ := i3 (by omega)
          rw [e1]
          rw [if_neg (by omega : ¬ ((s + (2 * A - l)) % 2 = 1 ∧ 1 = 1)), Nat.add_zero]
          generalize (s / 2 + (A - l / 2)) &&& l / 2 = N at j1 j2 j3 ⊢
          refine ⟨by omega, ?_, fun u hu hsu => ?_⟩
          · rw [ek, if_pos b, show 2 * N / 2 = N by omega, show 2 * N % 2 = 0 by omega, j2]
            omega
          · have := j3 (u / 2) (eu u hu) (by omega)
            omega
        · have e1 : (s + (2 * A - l)) / 2 = s / 2 + (A - 1 - l / 2) := by omega
          rw [e1, q, if_pos (by omega : (s + (2 * A - l)) % 2 = 1 ∧ 1 = 1)]
          refine ⟨by omega, ?_, fun u hu hsu => by omega⟩
          rw [ek, if_pos b, show (2 * (s / 2) + 1) / 2 = s / 2 by omega]
          omega
    · rw [if_neg b, show l % 2 = 0 by omega, Nat.add_zero]
      have c : s % 2 = 0 := by
        have := fun z => b (h2 z)
        omega
      refine ⟨i1, fun e => i2 (by omega), fun lt => ?_⟩
      have e1 : (s + (2 * A - l)) / 2 = s / 2 + (A - l / 2) := by omega
      obtain ⟨j1, j2, j3⟩ := i3 (by omega)
      rw [e1, if_neg (by omega : ¬ ((s + (2 * A - l)) % 2 = 1 ∧ 0 = 1)), Nat.add_zero]
      generalize (s / 2 + (A - l / 2)) &&& l / 2 = N at j1 j2 j3 ⊢
      refine ⟨by omega, ?_, fun u hu hsu => ?_⟩
      · rw [ek, if_neg b, show 2 * N / 2 = N by omega, j2]
      · have hu2 : ¬ u % 2 = 1 := fun z => b ((sb_half hu).2 z)
        have := j3 (u / 2) (eu u hu) (by omega)
        omega
theorem and_m {a l : Nat} (h : l < 4096) : a &&& l = (a % 4096) &&& l := by
  have e : (a &&& l) % 2 ^ 12 = (a % 2 ^ 12) &&& (l % 2 ^ 12) := Nat.and_mod_two_pow
  have le : a &&& l ≤ l := Nat.and_le_right
  rw [show (2 : Nat) ^ 12 = 4096 from rfl, Nat.mod_eq_of_lt (show a &&& l < 4096 by omega), Nat.mod_eq_of_lt h] at e
  exact e
theorem nx_N {s l : Nat} (hl : l < 4096) (hs : s ≤ l) : (Int32.ofNat s - Int32.ofNat l) &&& Int32.ofNat l = Int32.ofNat ((s + (4096 - l)) &&& l) := by
  refine Int32.toBitVec_inj.mp (BitVec.eq_of_toNat_eq ?_)
  rw [Int32.toBitVec_and, Int32.toBitVec_sub, BitVec.toNat_and, BitVec.toNat_sub]
  show (2 ^ 32 - l % 2 ^ 32 + s % 2 ^ 32) % 2 ^ 32 &&& l % 2 ^ 32 = ((s + (4096 - l)) &&& l) % 2 ^ 32
  have le : (s + (4096 - l)) &&& l ≤ l := Nat.and_le_right
  have p : (2 : Nat) ^ 32 = 4294967296 := rfl
  rw [p, Nat.mod_eq_of_lt (show l < 4294967296 by omega), Nat.mod_eq_of_lt (show s < 4294967296 by omega), Nat.mod_eq_of_lt (show (s + (4096 - l)) &&& l < 4294967296 by omega), and_m hl, and_m (a := s + (4096 - l)) hl]
  congr 1
  omega
/-! bit counts, trailing zeros -/
theorem pp_tab : ∀ i : Fin 64, ∀ j : Fin 64, bcF (Int32.ofNat (64 * i.val + j.val)) = Int32.ofNat (ppk 12 (64 * i.val + j.val)) ∧ ppk 12 (64 * i.val + j.val) ≤ 12 := by decide +kernel
theorem pp_of {l : Nat} (h : l < 4096) : bcF (Int32.ofNat l) = Int32.ofNat (ppk 12 l) ∧ ppk 12 l ≤ 12 := by
  have := pp_tab ⟨l / 64, by omega⟩ ⟨l % 64, by omega⟩
  try dsimp only at this
  rw [show 64 * (l / 64) + l % 64 = l by omega] at this
  exact this
def ntF (a : Int32) : Int32 := (if 0 < ((a ^^^ (-1)) &&& (a - 1)) then (if ((a ^^^ (-1)) &&& (a - 1)) ≤ 65536 then (if ((a ^^^ (-1)) &&& (a - 1)) ≤ 256 then (if ((a ^^^ (-1)) &&& (a - 1)) ≤ 16 then (if ((a ^^^ (-1)) &&& (a - 1)) ≤ 4 then (1 + (ush ((a ^^^ (-1)) &&& (a - 1)) 1)) else ((1 + 2) + (ush (ush ((a ^^^ (-1)) &&& (a - 1)) 2) 1))) else (if (ush ((a ^^^ (-1)) &&& (a - 1)) 4) ≤ 4 then ((1 + 4) + (ush (ush ((a ^^^ (-1)) &&& (a - 1)) 4) 1)) else (((1 + 4) + 2) + (ush (ush (ush ((a ^^^ (-1)) &&& (a - 1)) 4) 2) 1)))) else (if (ush ((a ^^^ (-1)) &&& (a - 1)) 8) ≤ 16 then (if (ush ((a ^^^ (-1)) &&& (a - 1)) 8) ≤ 4 then ((1 + 8) + (ush (ush ((a ^^^ (-1)) &&& (a - 1)) 8) 1)) else (((1 + 8) + 2) + (ush (ush (ush ((a ^^^ (-1)) &&& (a - 1)) 8) 2) 1))) else (if (ush (ush ((a ^^^ (-1)) &&& (a - 1)) 8) 4) ≤ 4 then (((1 + 8) + 4) + (ush (ush (ush ((a ^^^ (-1)) &&& (a - 1)) 8) 4) 1)) else ((((1 + 8) + 4) + 2) + (ush (ush (ush (ush ((a ^^^ (-1)) &&& (a - 1)) 8) 4) 2) 1))))) else (if (ush ((a ^^^ (-1)) &&& (a - 1)) 16) ≤ 256 then (if (ush ((a ^^^ (-1)) &&& (a - 1)) 16) ≤ 16 then (if (ush ((a ^^^ (-1)) &&& (a - 1)) 16) ≤ 4 then ((1 + 16) + (ush (ush ((a ^^^ (-1)) &&& (a - 1)) 16) 1)) else (((1 + 16) + 2) + (ush (ush (ush ((a ^^^ (-1)) &&& (a - 1)) 16) 2) 1))) else (if (ush (ush ((a ^^^ (-1)) &&& (a - 1)) 16) 4) ≤ 4 then (((1 + 16) + 4) + (ush (ush (ush ((a ^^^ (-1)) &&& (a - 1)) 16) 4) 1)) else ((((1 + 16) + 4) + 2) + (ush (ush (ush (ush ((a ^^^ (-1)) &&& (a - 1)) 16) 4) 2) 1)))) else (if (ush (ush ((a ^^^ (-1)) &&& (a - 1)) 16) 8) ≤ 16 then (if (ush (ush ((a ^^^ (-1)) &&& (a - 1)) 16) 8) ≤ 4 then (((1 + 16) + 8) + (ush (ush (ush ((a ^^^ (-1)) &&& (a - 1)) 16) 8) 1)) else ((((1 + 16) + 8) + 2) + (ush (ush (ush (ush ((a ^^^ (-1)) &&& (a - 1)) 16) 8) 2) 1))) else (if (ush (ush (ush ((a ^^^ (-1)) &&& (a - 1)) 16) 8) 4) ≤ 4 then ((((1 + 16) + 8) + 4) + (ush (ush (ush (ush ((a ^^^ (-1)) &&& (a - 1)) 16) 8) 4) 1)) else (((((1 + 16) + 8) + 4) + 2) + (ush (ush (ush (ush (ush ((a ^^^ (-1)) &&& (a - 1)) 16) 8) 4) 2) 1)))))) else (((a ^^^ (-1)) &&& (a - 1)) &&& 32))
theorem s_191 {a : Int32} {σ : St} {K : Int32 → St → Prop} (h : K (ntF a) σ) : CI 191 [.int a] σ K := by
  refine w_191 ?_
  unfold ntF at h
  by_cases c0 : 0 < ((a ^^^ (-1)) &&& (a - 1))
  · rw [if_pos c0] at h ⊢
    by_cases c1 : ((a ^^^ (-1)) &&& (a - 1)) ≤ 65536
    · rw [if_pos c1] at h ⊢
      by_cases c2 : ((a ^^^ (-1)) &&& (a - 1)) ≤ 256
      · rw [if_pos c2] at h ⊢
        by_cases c3 : ((a ^^^ (-1)) &&& (a - 1)) ≤ 16
        · rw [if_pos c3] at h ⊢
          by_cases c4 : ((a ^^^ (-1)) &&& (a - 1)) ≤ 4
          · rw [if_pos c4] at h ⊢
            exact h
          · rw [if_neg c4] at h ⊢
            exact h
        · rw [if_neg c3] at h ⊢
          by_cases c4 : (ush ((a ^^^ (-1)) &&& (a - 1)) 4) ≤ 4
          · rw [if_pos c4] at h ⊢
            exact h
          · rw [if_neg c4] at h ⊢
            exact h
      · rw [if_neg c2] at h ⊢
        by_cases c3 : (ush ((a ^^^ (-1)) &&& (a - 1)) 8) ≤ 16
        · rw [if_pos c3] at h ⊢
          by_cases c4 : (ush ((a ^^^ (-1)) &&& (a - 1)) 8) ≤ 4
          · rw [if_pos c4] at h ⊢
            exact h
          · rw [if_neg c4] at h ⊢
            exact h
        · rw [if_neg c3] at h ⊢
          by_cases c4 : (ush (ush ((a ^^^ (-1)) &&& (a - 1)) 8) 4) ≤ 4
          · rw [if_pos c4] at h ⊢
            exact h
          · rw [if_neg c4] at h ⊢
            exact h
    · rw [if_neg c1] at h ⊢
      by_cases c2 : (ush ((a ^^^ (-1)) &&& (a - 1)) 16) ≤ 256
      · rw [if_pos c2] at h ⊢
        by_cases c3 : (ush ((a ^^^ (-1)) &&& (a - 1)) 16) ≤ 16
        · rw [if_pos c3] at h ⊢
          by_cases c4 : (ush ((a ^^^ (-1)) &&& (a - 1)) 16) ≤ 4
          · rw [if_pos c4] at h ⊢
            exact h
          · rw [if_neg c4] at h ⊢
            exact h
        · rw [if_neg c3] at h ⊢
          by_cases c4 : (ush (ush ((a ^^^ (-1)) &&& (a - 1)) 16) 4) ≤ 4
          · rw [if_pos c4] at h ⊢
            exact h
          · rw [if_neg c4] at h ⊢
            exact h
      · rw [if_neg c2] at h ⊢
        by_cases c3 : (ush (ush ((a ^^^ (-1)) &&& (a - 1)) 16) 8) ≤ 16
        · rw [if_pos c3] at h ⊢
          by_cases c4 : (ush (ush ((a ^^^ (-1)) &&& (a - 1)) 16) 8) ≤ 4
          · rw [if_pos c4] at h ⊢
            exact h
          · rw [if_neg c4] at h ⊢
            exact h
        · rw [if_neg c3] at h ⊢
          by_cases c4 : (ush (ush (ush ((a ^^^ (-1)) &&& (a - 1)) 16) 8) 4) ≤ 4
          · rw [if_pos c4] at h ⊢
            exact h
          · rw [if_neg c4] at h ⊢
            exact h
  · rw [if_neg c0] at h ⊢
    exact h
/-- the lowest bit of x -/
def ntN : Nat → Nat → Nat
  | 0, _ => 0
  | k + 1, x => if x % 2 = 1 then 0 else ntN k (x / 2) + 1
theorem nt_tab : ∀ x : Fin 64, x.val = 0 ∨ (ntF (Int32.ofNat x.val) = Int32.ofNat (ntN 6 x.val) ∧ ntN 6 x.val < 6 ∧ (∃ r : Fin 64, r.val < x.val ∧ Int32.ofNat x.val &&& (Int32.ofNat x.val - 1) = Int32.ofNat r.val ∧ ∀ l : Fin 6, bt (Int32.ofNat r.val) l.val = (bt (Int32.ofNat x.val) l.val && !decide (l.val = ntN 6 x.val))) ∧ bt (Int32.ofNat x.val) (ntN 6 x.val) = true) := by decide +kernel
/-- what the lines of a set weigh -/
def wt6 (g : Nat → Int32) (x : Nat) : Int32 := smm (fun l => bif bt (Int32.ofNat x) l then g l else 0) 6 0 0
theorem smm_one {f : Nat} {v : Int32} : ∀ (d i : Nat), i ≤ f → f < i + d → smm (fun l => if l = f then v else 0) d i 0 = v
  | 0, i, h1, h2 => by omega
  | d + 1, i, h1, h2 => by
    show smm (fun l => if l = f then v else 0) d (i + 1) (0 + (if i = f then v else 0)) = v
    by_cases c : i = f
    · rw [if_pos c, Int32.zero_add, smm_z d (i + 1) v (fun j a b => if_neg (by omega))]
    · rw [if_neg c, ad_z]
      exact smm_one d (i + 1) (by omega) (by omega)
theorem wt6_s {g : Nat → Int32} {x r f : Nat} (hf : f < 6) (hx : bt (Int32.ofNat x) f = true) (hr : ∀ l, l < 6 → bt (Int32.ofNat r) l = (bt (Int32.ofNat x) l && !decide (l = f))) : wt6 g x = wt6 g r + g f := by
  unfold wt6
  rw [← smm_one (f := f) (v := g f) 6 0 (Nat.zero_le _) (by omega), ← smm_add]
  refine smm_cg 6 0 0 (fun l _ hl => ?_)
  rw [hr l (by omega)]
  by_cases c : l = f
  · rw [c, hx, if_pos rfl, decide_eq_true rfl]
    show g f = 0 + g f
    rw [Int32.zero_add]
  · rw [decide_eq_false c, if_neg c, Bool.not_false, Bool.and_true, ad_z]
theorem s_52l {τ : St} {k : Int32} {K : St → Prop} (hK : ∀ σ', (∀ q j, ¬ q = 35 → ¬ q = 36 → σ' q j = τ q j) → (∀ y, y < 64 → σ' 35 y = wt6 (fun l => lnD k (τ 14 l)) y ∧ σ' 36 y = wt6 (fun l => lnD k (τ 14 (6 + l))) y) → K σ') : ∀ (d x : Nat) (o o' : Option Value) {σ : St}, x + d = 64 → 1 ≤ x → (∀ q j, ¬ q = 35 → ¬ q = 36 → σ q j = τ q j) → (∀ y, y < x → σ 35 y = wt6 (fun l => lnD k (τ 14 l)) y ∧ σ 36 y = wt6 (fun l => lnD k (τ 14 (6 + l))) y) → PV 52 2 [some (.ref 34), some (.ref 11), some (.int k), some (.int (Int32.ofNat x)), o, o'] [] σ K := by
  have l64 : (64 : Int32).toInt = 64 := rfl
  intro d
  induction d with
  | zero =>
    intro x o o' σ hx h1 hf hr
    refine w_52_2 ?_
    rw [if_pos (by rw [Int32.le_iff_toInt_le, l64, ti_of (by omega)]; omega)]
    exact hK σ hf (fun y hy => hr y (by omega))
  | succ d ih =>
    intro x o o' σ hx h1 hf hr
    refine w_52_2 ?_
    rw [if_neg (by rw [Int32.le_iff_toInt_le, l64, ti_of (by omega)]; omega)]
    obtain ⟨n1, n2, ⟨⟨r, r64⟩, r1, r2, r3⟩, n4⟩ := (nt_tab ⟨x, by omega⟩).resolve_left (by show ¬ x = 0; omega)
    have n1 : ntF (Int32.ofNat x) = Int32.ofNat (ntN 6 x) := n1
    have n2 : ntN 6 x < 6 := n2
    have r1 : r < x := r1
    have r2 : Int32.ofNat x &&& (Int32.ofNat x - 1) = Int32.ofNat r := r2
    have r3 : ∀ l, l < 6 → bt (Int32.ofNat r) l = (bt (Int32.ofNat x) l && !decide (l = ntN 6 x)) := fun l hl => r3 ⟨l, hl⟩
    have n4 : bt (Int32.ofNat x) (ntN 6 x) = true := n4
    refine s_191 ?_
    rw [n1, r2]
    refine ⟨by rw [ti_of (by omega)]; omega, s_19 (by omega) ⟨by rw [ti_of (by omega)]; omega, ?_⟩⟩
    have e6 : Int32.ofNat (ntN 6 x) + 6 = Int32.ofNat (6 + ntN 6 x) := ti_inj (by
      have l6 : (6 : Int32).toInt = 6 := rfl
      rw [ti_add (by rw [ti_of (by omega), l6]; omega) (by rw [ti_of (by omega), l6]; omega), ti_of (by omega), ti_of (by omega), l6]
      omega)
    rw [e6, tc_of (by omega), tc_of (by omega)]
    refine s_19 (by omega) ?_
    rw [of_s]
    refine ih (x + 1) _ _ (by omega) (by omega) (fun q j h1 h2 => by rw [s2_ne _ _ (fun z => h2 z.1), s2_ne _ _ (fun z => h1 z.1)]; exact hf q j h1 h2) (fun y hy => ?_)
    have e14 : ∀ j, (s2 σ 35 x (σ 35 r + lnD k (σ 14 (ntN 6 x)))) 14 j = τ 14 j := fun j => by rw [s2_ne _ _ (by omega)]; exact hf 14 j (by omega) (by omega)
    by_cases c : y = x
    · subst c
      refine ⟨?_, ?_⟩
      · rw [s2_ne _ _ (by omega), s2_self, (hr r r1).1, hf 14 _ (by omega) (by omega)]
        exact (wt6_s n2 n4 r3).symm
      · rw [s2_self, e14, (hr r r1).2]
        exact (wt6_s (g := fun l => lnD k (τ 14 (6 + l))) n2 n4 r3).symm
    · rw [s2_ne _ _ (by omega), s2_ne _ _ (by omega), s2_ne _ _ (by omega), s2_ne _ _ (by omega)]
      exact hr y (by omega)
theorem wt6_0 (g : Nat → Int32) : wt6 g 0 = 0 := smm_z 6 0 0 fun j _ _ => by
  have : bt (Int32.ofNat 0) j = false := b_0 j
  rw [this, cond_false]
theorem s_52 {σ : St} {k : Int32} {K : St → Prop} (h0 : σ 35 0 = 0 ∧ σ 36 0 = 0) (hK : ∀ σ', (∀ q j, ¬ q = 35 → ¬ q = 36 → σ' q j = σ q j) → (∀ y, y < 64 → σ' 35 y = wt6 (fun l => lnD k (σ 14 l)) y ∧ σ' 36 y = wt6 (fun l => lnD k (σ 14 (6 + l))) y) → K σ') : CV 52 [.ref 34, .ref 11, .int k] σ K :=
  w_52 (s_52l (τ := σ) hK 63 1 none none (by omega) (by omega) (fun _ _ _ _ => rfl) (fun y hy => by
    have e : y = 0 := by omega
    rw [e, wt6_0, wt6_0]
    exact h0))
theorem t53 : ∀ i : Fin 64, ∀ j : Fin 64, (Int32.ofNat (64 * i.val + j.val) &&& 63) = Int32.ofNat j.val ∧ ((Int32.ofNat (64 * i.val + j.val) >>> (6 &&& 31)) &&& 63) = Int32.ofNat i.val := by decide +kernel
/-- what a set weighs -/
def wtN (g : Nat → Int32) (s : Nat) : Int32 := smm (fun l => bif s.testBit l then g l else 0) 12 0 0
theorem s_53 {σ : St} {g : Nat → Int32} {s : Nat} {K : Int32 → St → Prop} (hs : s < 4096) (hw : ∀ y, y < 64 → σ 35 y = wt6 g y ∧ σ 36 y = wt6 (fun l => g (6 + l)) y) (hK : K (wtN g s) σ) : CI 53 [.ref 34, .int (Int32.ofNat s)] σ K := by
  have t := t53 ⟨s / 64, by omega⟩ ⟨s % 64, by omega⟩
  try dsimp only at t
  rw [show 64 * (s / 64) + s % 64 = s by omega] at t
  refine w_53 ?_
  rw [t.1, t.2, tc_of (by omega), tc_of (by omega), (hw _ (by omega)).1, (hw _ (by omega)).2]
  refine ⟨by rw [ti_of (by omega)]; omega, by rw [ti_of (by omega)]; omega, ?_⟩
  have e : wt6 g (s % 64) + wt6 (fun l => g (6 + l)) (s / 64) = wtN g s := by
    unfold wtN wt6
    rw [show (12 : Nat) = 6 + 6 from rfl, smm_cat 6 6 0 0, smm_x 6 (0 + 6)]
    congr 1
    · refine smm_cg 6 0 0 (fun l _ hl => ?_)
      rw [bt_of (by omega), show s % 64 = s % 2 ^ 6 from rfl, Nat.testBit_mod_two_pow, decide_eq_true (by omega), Bool.true_and]
    · rw [show 0 + 6 = 6 + 0 from rfl, ← smm_sh (f := fun l => bif s.testBit l then g l else 0) (s := 6) 6 0 0]
      refine smm_cg 6 0 0 (fun l _ hl => ?_)
      rw [bt_of (by omega), show s / 64 = s / 2 ^ 6 from rfl, Nat.testBit_div_two_pow, Nat.add_comm l 6]
  rw [e]
  exact hK
