/-! what the checker's knowledge means -/
def outC : Int32 := -1000000002
def qIt : Nat → Int64 → Int64 → Int64
  | 0, _, o => o
  | k + 1, q, o => qIt k q (o * q / 100)
def qF (n q : Int32) : Int32 := if (n < 0 ∨ 60 < n) ∨ (q < 0 ∨ 100 < q) then outC else (qIt n.toNatClampNeg q.toInt64 1000000000).toInt32
def bf (op : Nat) (x y : Int32) : Int32 := match op with
  | 1 => x + y
  | 2 => x - y
  | 3 => x * y
  | 4 => x &&& y
  | 5 => x ||| y
  | 6 => x ^^^ y
  | 7 => x <<< (y &&& 31)
  | 8 => x >>> (y &&& 31)
  | 9 => (x.toUInt32 >>> (y.toUInt32 &&& Int32.toUInt32 31)).toInt32
  | 10 => x / y
  | 11 => x - x / y * y
  | 12 => if x < y then y else x
  | 13 => if y < x then y else x
  | 15 => qF x y
  | _ => 0
def den (ν : Nat → Int) (t : Tm) : Int := match t.1 with
  | 0 => t.2.1
  | 50 => if ν t.2.2.toNat < ν t.2.1.toNat then 1 else if ν t.2.1.toNat = ν t.2.2.toNat then 0 else -1
  | op => (bf op (Int32.ofInt (ν t.2.1.toNat)) (Int32.ofInt (ν t.2.2.toNat))).toInt
def tOK (n : Nat) (t : Tm) : Prop := t.1 = 0 ∨ (t.2.1.toNat < n ∧ t.2.2.toNat < n)
def rdX (X : Scr) (σ : St) (a j : Nat) : Int32 := match X with
  | some q => if a = 1000 then q.2 j else σ a j
  | none => σ a j
def RQ (σ : St) : Prop := ∀ l : Nat, (l : Int) < (σ gO gL).toInt → (σ gA l).toInt < (σ gO gP).toInt ∧ (σ gB l).toInt < (σ gO gP).toInt
def QI (σ : St) : Prop := ∀ l : Nat, (l : Int) < (σ qO qL).toInt → (σ qA l).toInt < (σ qO qP).toInt ∧ (σ qB l).toInt < (σ qO qP).toInt
def IvOK (σ : St) : Prop := ∀ k j : Nat, (iv k j).1 ≤ (σ k j).toInt ∧ (σ k j).toInt ≤ (iv k j).2
def Inv (σ : St) : Prop := IvOK σ ∧ QI σ
def vOK (X : Scr) (ν : Nat → Int) (K : Kn) (σ : St) : Prop :=
  (∀ q ∈ kE K, q.1 < kN K ∧ q.2.1 ≤ ν q.1 ∧ ν q.1 ≤ q.2.2) ∧
  (∀ q ∈ kG K, q.1 < kN K ∧ q.2.1 < kN K ∧ ν q.2.1 + q.2.2 ≤ ν q.1) ∧
  (∀ q ∈ kD K, q.2 < kN K ∧ tOK (kN K) q.1 ∧ ν q.2 = den ν q.1) ∧
  (∀ q ∈ kC K, q.2 < kN K ∧ ν q.2 = (σ q.1.1 q.1.2).toInt) ∧
  (∀ q ∈ kA K, q.1.2 < kN K ∧ q.2 < kN K ∧ 0 ≤ ν q.1.2 ∧ ν q.2 = (rdX X σ q.1.1 (ν q.1.2).toNat).toInt) ∧
  (kg K = true → RQ σ)
def xt (ν ν' : Nat → Int) (n : Nat) : Prop := ∀ i, i < n → ν' i = ν i
theorem xt.rf {ν : Nat → Int} {n : Nat} : xt ν ν n := fun _ _ => rfl
theorem xt.trans {ν ν' ν'' : Nat → Int} {n m : Nat} (h : xt ν ν' n) (h2 : xt ν' ν'' m) (hm : n ≤ m) : xt ν ν'' n := fun i hi => (h2 i (by omega)).trans (h i hi)
theorem den0 (ν : Nat → Int) (u w : Int) : den ν (0, u, w) = u := by
  unfold den
  split
  · rfl
  · rename_i e; dsimp only at e; omega
  · rename_i h0 _; exact absurd rfl h0
theorem den_xt {ν ν' : Nat → Int} {n : Nat} {t : Tm} (h : tOK n t) (hx : xt ν ν' n) : den ν' t = den ν t := by
  rcases h with h | ⟨h1, h2⟩
  · obtain ⟨op, u, w⟩ := t
    dsimp only at h
    subst h
    exact (den0 ν' u w).trans (den0 ν u w).symm
  · unfold den; rw [hx _ h1, hx _ h2]
theorem tOK.mono {n m : Nat} {t : Tm} (h : tOK n t) (hm : n ≤ m) : tOK m t := h.imp id (fun h => ⟨by omega, by omega⟩)
theorem vOK.ext {X : Scr} {ν ν' : Nat → Int} {K : Kn} {σ : St} (h : vOK X ν K σ) (hx : xt ν ν' (kN K)) : vOK X ν' K σ := by
  obtain ⟨hE, hG, hD, hC, hA, hg⟩ := h
  refine ⟨fun q hq => ?_, fun q hq => ?_, fun q hq => ?_, fun q hq => ?_, fun q hq => ?_, hg⟩
  · obtain ⟨a, b⟩ := hE q hq; rw [hx _ a]; exact ⟨a, b⟩
  · obtain ⟨a, b, c⟩ := hG q hq; rw [hx _ a, hx _ b]; exact ⟨a, b, c⟩
  · obtain ⟨a, b, c⟩ := hD q hq; rw [hx _ a, den_xt b hx]; exact ⟨a, b, c⟩
  · obtain ⟨a, b⟩ := hC q hq; rw [hx _ a]; exact ⟨a, b⟩
  · obtain ⟨a, b, c⟩ := hA q hq; rw [hx _ a, hx _ b]; exact ⟨a, b, c⟩
theorem kiv_ok {X : Scr} {ν : Nat → Int} {K : Kn} {σ : St} {s : Nat} {p : Int × Int} (h : vOK X ν K σ) (hk : kiv K s = some p) : s < kN K ∧ p.1 ≤ ν s ∧ ν s ≤ p.2 := h.1 (s, p) (pkn_mem hk)
theorem tmEq_ok {a b : Tm} (h : tmEq a b = true) : a = b := by
  unfold tmEq at h
  simp only [Bool.and_eq_true, decide_eq_true_eq] at h
  exact Prod.ext (Nat.eq_of_beq_eq_true h.1.1) (Prod.ext h.1.2 h.2)
theorem dlk_mem {l : List (Tm × Nat)} {t : Tm} {s : Nat} (h : dlk l t = some s) : (t, s) ∈ l := by
  induction l with
  | nil => cases h
  | cons q u ih =>
    unfold dlk at h
    cases hb : tmEq q.1 t with
    | true =>
      rw [hb] at h
      have e1 := tmEq_ok hb
      have e2 : q.2 = s := Option.some.inj h
      rw [← e1, ← e2]; exact List.mem_cons_self
    | false => rw [hb] at h; exact List.mem_cons_of_mem _ (ih h)
theorem clk_mem {l : List ((Nat × Nat) × Nat)} {a j s : Nat} (h : clk l a j = some s) : ((a, j), s) ∈ l := by
  induction l with
  | nil => cases h
  | cons q u ih =>
    unfold clk at h
    cases hb : (Nat.beq q.1.1 a && Nat.beq q.1.2 j) with
    | true =>
      rw [hb] at h
      rw [Bool.and_eq_true] at hb
      have e1 := Nat.eq_of_beq_eq_true hb.1
      have e3 := Nat.eq_of_beq_eq_true hb.2
      have e2 : q.2 = s := Option.some.inj h
      rw [← e1, ← e2, ← e3]; exact List.mem_cons_self
    | false => rw [hb] at h; exact List.mem_cons_of_mem _ (ih h)
/-- a symbol more -/
def upN (ν : Nat → Int) (n : Nat) (v : Int) : Nat → Int := fun i => if i = n then v else ν i
theorem upN_self (ν : Nat → Int) (n : Nat) (v : Int) : upN ν n v n = v := by simp [upN]
theorem upN_xt (ν : Nat → Int) (n : Nat) (v : Int) : xt ν (upN ν n v) n := fun i hi => by simp [upN, Nat.ne_of_lt hi]
def Grow (X : Scr) (ν : Nat → Int) (K : Kn) (σ : St) (K' : Kn) (s : Nat) (v : Int) : Prop := ∃ ν', xt ν ν' (kN K) ∧ kN K ≤ kN K' ∧ vOK X ν' K' σ ∧ s < kN K' ∧ ν' s = v ∧ kg K' = kg K
theorem Grow.same {X : Scr} {ν : Nat → Int} {K : Kn} {σ : St} {s : Nat} (h : vOK X ν K σ) (hs : s < kN K) : Grow X ν K σ K s (ν s) := ⟨ν, xt.rf, Nat.le_refl _, h, hs, rfl, rfl⟩
/-- the shape of all growth: a new symbol's interval, and rows that hold of it -/
theorem grow_core {X : Scr} {ν : Nat → Int} {K : Kn} {σ : St} (h : vOK X ν K σ) (lo hi v : Int) (h1 : lo ≤ v) (h2 : v ≤ hi) (D' : List (Tm × Nat)) (C' A' : List ((Nat × Nat) × Nat))
    (hD' : ∀ q ∈ D', q ∈ kD K ∨ (q.2 = kN K ∧ tOK (kN K) q.1 ∧ v = den ν q.1)) (hC' : ∀ q ∈ C', q ∈ kC K ∨ (q.2 = kN K ∧ v = (σ q.1.1 q.1.2).toInt)) (hA' : ∀ q ∈ A', q ∈ kA K ∨ (q.2 = kN K ∧ q.1.2 < kN K ∧ 0 ≤ ν q.1.2 ∧ v = (rdX X σ q.1.1 (ν q.1.2).toNat).toInt)) :
    Grow X ν K σ ((kN K, lo, hi) :: kE K, kN K + 1, kG K, D', C', A', kg K) (kN K) v := by
  have hx := upN_xt ν (kN K) v
  obtain ⟨hE, hG, hD, hC, hA, hg⟩ := h.ext hx
  refine ⟨upN ν (kN K) v, hx, Nat.le_succ _, ⟨fun q hq => ?_, fun q hq => ?_, fun q hq => ?_, fun q hq => ?_, fun q hq => ?_, hg⟩, Nat.lt_succ_self _, upN_self _ _ _, rfl⟩
  · rcases List.mem_cons.mp hq with e | e
    · rw [e]; exact ⟨Nat.lt_succ_self _, by rw [upN_self]; exact h1, by rw [upN_self]; exact h2⟩
    · obtain ⟨a, b⟩ := hE q e; exact ⟨Nat.lt_succ_of_lt a, b⟩
  · obtain ⟨a, b, c⟩ := hG q hq; exact ⟨Nat.lt_succ_of_lt a, Nat.lt_succ_of_lt b, c⟩
  · rcases hD' q hq with e | ⟨e1, e2, e3⟩
    · obtain ⟨a, b, c⟩ := hD q e; exact ⟨Nat.lt_succ_of_lt a, b.mono (Nat.le_succ _), c⟩
    · refine ⟨by rw [e1]; exact Nat.lt_succ_self _, e2.mono (Nat.le_succ _), ?_⟩
      rw [e1, upN_self, den_xt e2 hx]; exact e3
  · rcases hC' q hq with e | ⟨e1, e2⟩
    · obtain ⟨a, b⟩ := hC q e; exact ⟨Nat.lt_succ_of_lt a, b⟩
    · exact ⟨by rw [e1]; exact Nat.lt_succ_self _, by rw [e1, upN_self]; exact e2⟩
  · rcases hA' q hq with e | ⟨e1, e2, e3, e4⟩
    · obtain ⟨a, b, c⟩ := hA q e; exact ⟨Nat.lt_succ_of_lt a, Nat.lt_succ_of_lt b, c⟩
    · refine ⟨Nat.lt_succ_of_lt e2, by rw [e1]; exact Nat.lt_succ_self _, by rw [hx _ e2]; exact e3, ?_⟩
      rw [e1, upN_self, hx _ e2]; exact e4
theorem kfresh_ok {X : Scr} {ν : Nat → Int} {K : Kn} {σ : St} (h : vOK X ν K σ) {lo hi v : Int} (h1 : lo ≤ v) (h2 : v ≤ hi) : Grow X ν K σ (kfresh K lo hi).1 (kfresh K lo hi).2 v :=
  grow_core h lo hi v h1 h2 _ _ _ (fun _ h => Or.inl h) (fun _ h => Or.inl h) (fun _ h => Or.inl h)
theorem kdef_ok {X : Scr} {ν : Nat → Int} {K : Kn} {σ : St} (h : vOK X ν K σ) {t : Tm} {lo hi : Int} (ht : tOK (kN K) t) (h1 : lo ≤ den ν t) (h2 : den ν t ≤ hi) : Grow X ν K σ (kdef K t lo hi).1 (kdef K t lo hi).2 (den ν t) := by
  unfold kdef
  cases hd : dlk (kD K) t with
  | some s =>
    obtain ⟨a, b, c⟩ := h.2.2.1 _ (dlk_mem hd)
    have := Grow.same h a
    rw [c] at this
    exact this
  | none =>
    refine grow_core h lo hi _ h1 h2 _ _ _ (fun q hq => ?_) (fun _ h => Or.inl h) (fun _ h => Or.inl h)
    rcases List.mem_cons.mp hq with e | e
    · exact Or.inr (by rw [e]; exact ⟨rfl, ht, rfl⟩)
    · exact Or.inl e
theorem kconst_ok {X : Scr} {ν : Nat → Int} {K : Kn} {σ : St} (h : vOK X ν K σ) (c : Int) : Grow X ν K σ (kconst K c).1 (kconst K c).2 c :=
  kdef_ok (t := (0, c, 0)) h (Or.inl rfl) (Int.le_refl _) (Int.le_refl _)
theorem kslot_ok {X : Scr} {ν : Nat → Int} {K : Kn} {σ : St} (h : vOK X ν K σ) (hI : IvOK σ) (a j : Nat) : Grow X ν K σ (kslot K a j).1 (kslot K a j).2 (σ a j).toInt := by
  unfold kslot
  cases hd : clk (kC K) a j with
  | some s =>
    obtain ⟨x, z⟩ := h.2.2.2.1 _ (clk_mem hd)
    have := Grow.same h x
    rw [z] at this
    exact this
  | none =>
    refine grow_core h _ _ _ (hI a j).1 (hI a j).2 _ _ _ (fun _ h => Or.inl h) (fun q hq => ?_) (fun _ h => Or.inl h)
    rcases List.mem_cons.mp hq with e | e
    · exact Or.inr (by rw [e]; exact ⟨rfl, rfl⟩)
    · exact Or.inl e
theorem kelem_ok {X : Scr} {ν : Nat → Int} {K : Kn} {σ : St} (h : vOK X ν K σ) {a i : Nat} {lo hi : Int} (hi' : i < kN K) (h0 : 0 ≤ ν i) (h1 : lo ≤ (rdX X σ a (ν i).toNat).toInt) (h2 : (rdX X σ a (ν i).toNat).toInt ≤ hi) : Grow X ν K σ (kelem K a i lo hi).1 (kelem K a i lo hi).2 (rdX X σ a (ν i).toNat).toInt := by
  unfold kelem
  cases hd : clk (kA K) a i with
  | some s =>
    obtain ⟨x, z, w, u⟩ := h.2.2.2.2.1 _ (clk_mem hd)
    have := Grow.same h z
    rw [u] at this
    exact this
  | none =>
    refine grow_core h _ _ _ h1 h2 _ _ _ (fun _ h => Or.inl h) (fun _ h => Or.inl h) (fun q hq => ?_)
    rcases List.mem_cons.mp hq with e | e
    · exact Or.inr (by rw [e]; exact ⟨rfl, hi', h0, rfl⟩)
    · exact Or.inl e
/-- facts and intervals that hold may be added -/
theorem vOK.addE {X : Scr} {ν : Nat → Int} {K : Kn} {σ : St} (h : vOK X ν K σ) {E' : List (Nat × Int × Int)} {G' : List (Nat × Nat × Int)} (hE' : ∀ q ∈ E', q ∈ kE K ∨ (q.1 < kN K ∧ q.2.1 ≤ ν q.1 ∧ ν q.1 ≤ q.2.2)) (hG' : ∀ q ∈ G', q ∈ kG K ∨ (q.1 < kN K ∧ q.2.1 < kN K ∧ ν q.2.1 + q.2.2 ≤ ν q.1)) : vOK X ν (E', kN K, G', kD K, kC K, kA K, kg K) σ := by
  obtain ⟨hE, hG, hD, hC, hA, hg⟩ := h
  exact ⟨fun q hq => (hE' q hq).elim (hE q) id, fun q hq => (hG' q hq).elim (hG q) id, hD, hC, hA, hg⟩
theorem vOK.setE {X : Scr} {ν : Nat → Int} {K : Kn} {σ : St} (h : vOK X ν K σ) {s : Nat} {lo hi : Int} (hs : s < kN K) (h1 : lo ≤ ν s) (h2 : ν s ≤ hi) : vOK X ν (setE K (s, lo, hi)) σ :=
  h.addE (fun q hq => (List.mem_cons.mp hq).elim (fun e => Or.inr (by rw [e]; exact ⟨hs, h1, h2⟩)) Or.inl) (fun _ h => Or.inl h)
theorem gq_ok {ν : Nat → Int} {G : List (Nat × Nat × Int)} (hG : ∀ q ∈ G, ν q.2.1 + q.2.2 ≤ ν q.1) : ∀ (n a b : Nat) (c : Int), gq n G a b c = true → ν b + c ≤ ν a := by
  intro n
  induction n with
  | zero => intro a b c h; cases h
  | succ n ih =>
    intro a b c h
    unfold gq at h
    rw [Bool.or_eq_true] at h
    rcases h with h | h
    · rw [Bool.and_eq_true, decide_eq_true_eq] at h
      have e := Nat.eq_of_beq_eq_true h.1
      rw [e]; have := h.2; omega
    · obtain ⟨q, hq, h2⟩ := List.any_eq_true.mp h
      rw [Bool.and_eq_true] at h2
      have e := Nat.eq_of_beq_eq_true h2.1
      have h3 := ih _ _ _ h2.2
      have h4 := hG q hq
      rw [e] at h4
      omega
theorem geq_ok {X : Scr} {ν : Nat → Int} {K : Kn} {σ : St} (h : vOK X ν K σ) {a b : Nat} {c : Int} (hg : geq K a b c = true) : ν b + c ≤ ν a := by
  unfold geq at hg
  rw [Bool.or_eq_true] at hg
  rcases hg with hg | hg
  · unfold giv at hg
    split at hg
    · rename_i p q hp hq
      have h1 := kiv_ok h hp
      have h2 := kiv_ok h hq
      have h3 := of_decide_eq_true hg
      omega
    · cases hg
  · exact gq_ok (fun q hq => (h.2.1 q hq).2.2) _ _ _ _ hg
theorem drv_ok {X : Scr} {ν : Nat → Int} {K : Kn} {σ : St} (h : vOK X ν K σ) {a b : Nat} {c : Int} {n : Nat} (hn : kN K ≤ n) (ha : a < n) (hf : ν b + c ≤ ν a) : ∀ q ∈ drv (kG K) a b c, q.1 < n ∧ q.2.1 < n ∧ ν q.2.1 + q.2.2 ≤ ν q.1 := by
  intro q hq
  obtain ⟨r, hr, he⟩ := List.mem_filterMap.mp hq
  obtain ⟨x1, x2, x3⟩ := h.2.1 r hr
  cases hb : Nat.beq r.1 b with
  | true =>
    rw [hb] at he
    have e := Option.some.inj he
    have e2 := Nat.eq_of_beq_eq_true hb
    rw [← e]
    rw [e2] at x3
    exact ⟨ha, by dsimp only; omega, by dsimp only; omega⟩
  | false => rw [hb] at he; cases he
theorem addf_ok {X : Scr} {ν : Nat → Int} {K : Kn} {σ : St} (h : vOK X ν K σ) {a b : Nat} {c : Int} (ha : a < kN K) (hb : b < kN K) (hf : ν b + c ≤ ν a) : vOK X ν (addf K a b c) σ ∧ kN (addf K a b c) = kN K ∧ kg (addf K a b c) = kg K := by
  unfold addf
  split
  · rename_i p q hp hq
    have h1 := kiv_ok h hp
    have h2 := kiv_ok h hq
    refine ⟨h.addE (fun r hr => ?_) (fun r hr => ?_), rfl, rfl⟩
    · rcases List.mem_cons.mp hr with e | hr
      · rw [e]; exact Or.inr ⟨ha, by dsimp only; omega, by dsimp only; omega⟩
      · rcases List.mem_cons.mp hr with e | hr
        · rw [e]; exact Or.inr ⟨hb, by dsimp only; omega, by dsimp only; omega⟩
        · exact Or.inl hr
    · rcases List.mem_cons.mp hr with e | hr
      · rw [e]; exact Or.inr ⟨ha, hb, hf⟩
      · rcases List.mem_append.mp hr with hr | hr
        · exact Or.inr (drv_ok h (Nat.le_refl _) ha hf r hr)
        · exact Or.inl hr
  · exact ⟨h, rfl, rfl⟩
theorem addfs_ok {X : Scr} {ν : Nat → Int} {K : Kn} {σ : St} (h : vOK X ν K σ) {s a : Nat} {c : Int} (hs : s < kN K) (ha : a < kN K) (hf : ν s = ν a + c) : vOK X ν (addfs K s a c) σ ∧ kN (addfs K s a c) = kN K ∧ kg (addfs K s a c) = kg K := by
  refine ⟨h.addE (fun r hr => Or.inl hr) (fun r hr => ?_), rfl, rfl⟩
  rcases List.mem_cons.mp hr with e | hr
  · rw [e]; exact Or.inr ⟨hs, ha, by dsimp only; omega⟩
  · rcases List.mem_append.mp hr with hr | hr
    · exact Or.inr (drv_ok h (Nat.le_refl _) hs (by omega) r hr)
    · rcases List.mem_cons.mp hr with e | hr
      · rw [e]; exact Or.inr ⟨ha, hs, by dsimp only; omega⟩
      · exact Or.inl hr
def relC (c : ClassFile.Cond) (x y : Int) : Prop := match c with
  | .eq => x = y
  | .ne => ¬ x = y
  | .lt => x < y
  | .ge => y ≤ x
  | .gt => y < x
  | .le => x ≤ y
theorem rlt_ok {X : Scr} {ν : Nat → Int} {K : Kn} {σ : St} (h : vOK X ν K σ) {a b : Nat} (ha : a < kN K) (hb : b < kN K) (hf : ν a < ν b) : ∃ K', rlt K a b = some K' ∧ vOK X ν K' σ ∧ kN K' = kN K ∧ kg K' = kg K := by
  unfold rlt
  split
  · rename_i p q hp hq
    have h1 := kiv_ok h hp
    have h2 := kiv_ok h hq
    have hn : ¬ (¬ p.1 < q.2 ∨ gq 4 (kG K) a b 0 = true) := by
      rintro (z | z)
      · omega
      · have := gq_ok (fun q hq => (h.2.1 q hq).2.2) _ _ _ _ z; omega
    rw [if_neg hn]
    refine ⟨_, rfl, h.addE (fun r hr => ?_) (fun r hr => ?_), rfl, rfl⟩
    · rcases List.mem_cons.mp hr with e | hr
      · rw [e]; exact Or.inr ⟨ha, by dsimp only; omega, by dsimp only; omega⟩
      · rcases List.mem_cons.mp hr with e | hr
        · rw [e]; exact Or.inr ⟨hb, by dsimp only; omega, by dsimp only; omega⟩
        · exact Or.inl hr
    · rcases List.mem_cons.mp hr with e | hr
      · rw [e]; exact Or.inr ⟨hb, ha, by dsimp only; omega⟩
      · exact Or.inl hr
  · exact ⟨K, rfl, h, rfl, rfl⟩
theorem rle_ok {X : Scr} {ν : Nat → Int} {K : Kn} {σ : St} (h : vOK X ν K σ) {a b : Nat} (ha : a < kN K) (hb : b < kN K) (hf : ν a ≤ ν b) : ∃ K', rle K a b = some K' ∧ vOK X ν K' σ ∧ kN K' = kN K ∧ kg K' = kg K := by
  unfold rle
  split
  · rename_i p q hp hq
    have h1 := kiv_ok h hp
    have h2 := kiv_ok h hq
    have hn : ¬ (¬ p.1 ≤ q.2 ∨ gq 4 (kG K) a b 1 = true) := by
      rintro (z | z)
      · omega
      · have := gq_ok (fun q hq => (h.2.1 q hq).2.2) _ _ _ _ z; omega
    rw [if_neg hn]
    refine ⟨_, rfl, h.addE (fun r hr => ?_) (fun r hr => ?_), rfl, rfl⟩
    · rcases List.mem_cons.mp hr with e | hr
      · rw [e]; exact Or.inr ⟨ha, by dsimp only; omega, by dsimp only; omega⟩
      · rcases List.mem_cons.mp hr with e | hr
        · rw [e]; exact Or.inr ⟨hb, by dsimp only; omega, by dsimp only; omega⟩
        · exact Or.inl hr
    · rcases List.mem_cons.mp hr with e | hr
      · rw [e]; exact Or.inr ⟨hb, ha, by dsimp only; omega⟩
      · exact Or.inl hr
  · exact ⟨K, rfl, h, rfl, rfl⟩
theorem req_ok {X : Scr} {ν : Nat → Int} {K : Kn} {σ : St} (h : vOK X ν K σ) {a b : Nat} (ha : a < kN K) (hb : b < kN K) (hf : ν a = ν b) : ∃ K', req K a b = some K' ∧ vOK X ν K' σ ∧ kN K' = kN K ∧ kg K' = kg K := by
  unfold req
  split
  · rename_i p q hp hq
    have h1 := kiv_ok h hp
    have h2 := kiv_ok h hq
    have hn : ¬ (¬ max p.1 q.1 ≤ min p.2 q.2 ∨ gq 4 (kG K) a b 1 = true ∨ gq 4 (kG K) b a 1 = true) := by
      rintro (z | z | z)
      · omega
      · have := gq_ok (fun q hq => (h.2.1 q hq).2.2) _ _ _ _ z; omega
      · have := gq_ok (fun q hq => (h.2.1 q hq).2.2) _ _ _ _ z; omega
    rw [if_neg hn]
    refine ⟨_, rfl, h.addE (fun r hr => ?_) (fun r hr => ?_), rfl, rfl⟩
    · rcases List.mem_cons.mp hr with e | hr
      · rw [e]; exact Or.inr ⟨ha, by dsimp only; omega, by dsimp only; omega⟩
      · rcases List.mem_cons.mp hr with e | hr
        · rw [e]; exact Or.inr ⟨hb, by dsimp only; omega, by dsimp only; omega⟩
        · exact Or.inl hr
    · rcases List.mem_cons.mp hr with e | hr
      · rw [e]; exact Or.inr ⟨ha, hb, by dsimp only; omega⟩
      · rcases List.mem_cons.mp hr with e | hr
        · rw [e]; exact Or.inr ⟨hb, ha, by dsimp only; omega⟩
        · exact Or.inl hr
  · exact ⟨K, rfl, h, rfl, rfl⟩
theorem cutO_ok {p : Int × Int} {v x : Int} (h1 : p.1 ≤ x) (h2 : x ≤ p.2) (hn : x ≠ v) : (cutO p v).1 ≤ x ∧ x ≤ (cutO p v).2 := by
  unfold cutO
  split
  · exact ⟨by dsimp only; omega, h2⟩
  · split
    · exact ⟨h1, by dsimp only; omega⟩
    · exact ⟨h1, h2⟩
theorem rne_ok {X : Scr} {ν : Nat → Int} {K : Kn} {σ : St} (h : vOK X ν K σ) {a b : Nat} (ha : a < kN K) (hb : b < kN K) (hf : ¬ ν a = ν b) : ∃ K', rne K a b = some K' ∧ vOK X ν K' σ ∧ kN K' = kN K ∧ kg K' = kg K := by
  unfold rne
  split
  · rename_i p q hp hq
    have h1 := kiv_ok h hp
    have h2 := kiv_ok h hq
    have hn : ¬ (a = b ∨ (p.1 = p.2 ∧ q.1 = q.2 ∧ p.1 = q.1) ∨ (geq K a b 0 = true ∧ geq K b a 0 = true)) := by
      rintro (z | z | z)
      · exact hf (by rw [z])
      · omega
      · have z1 := geq_ok h z.1
        have z2 := geq_ok h z.2
        omega
    rw [if_neg hn]
    by_cases hc : q.1 = q.2
    · rw [if_pos hc]
      have := cutO_ok (p := p) (v := q.1) h1.2.1 h1.2.2 (by omega)
      exact ⟨_, rfl, h.setE ha this.1 this.2, rfl, rfl⟩
    · rw [if_neg hc]
      by_cases hc2 : p.1 = p.2
      · rw [if_pos hc2]
        have := cutO_ok (p := q) (v := p.1) h2.2.1 h2.2.2 (by omega)
        exact ⟨_, rfl, h.setE hb this.1 this.2, rfl, rfl⟩
      · rw [if_neg hc2]; exact ⟨K, rfl, h, rfl, rfl⟩
  · exact ⟨K, rfl, h, rfl, rfl⟩
theorem rcmp_ok {X : Scr} {ν : Nat → Int} {K : Kn} {σ : St} (h : vOK X ν K σ) {c : ClassFile.Cond} {a b : Nat} (ha : a < kN K) (hb : b < kN K) (hf : relC c (ν a) (ν b)) : ∃ K', rcmp K c a b = some K' ∧ vOK X ν K' σ ∧ kN K' = kN K ∧ kg K' = kg K := by
  cases c with
  | lt => exact rlt_ok h ha hb hf
  | gt => exact rlt_ok h hb ha hf
  | le => exact rle_ok h ha hb hf
  | ge => exact rle_ok h hb ha hf
  | eq => exact req_ok h ha hb hf
  | ne => exact rne_ok h ha hb hf
theorem relC_neg {c : ClassFile.Cond} {x y : Int} (h : ¬ relC c x y) : relC (neg c) x y := by
  cases c <;> simp only [relC, neg] at h ⊢ <;> omega
