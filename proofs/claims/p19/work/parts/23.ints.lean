/-! intervals of the operations -/
theorem rng32 (x : Int32) : lo32 ≤ x.toInt ∧ x.toInt ≤ hi32 := by
  have h1 := x.le_toInt
  have h2 := x.toInt_lt
  unfold lo32 hi32
  omega
theorem rng64 (x : Int64) : lo64 ≤ x.toInt ∧ x.toInt ≤ hi64 := by
  have h1 := x.le_toInt
  have h2 := x.toInt_lt
  unfold lo64 hi64
  omega
theorem fit_ok {r s lo hi lo' hi' : Int} (h1 : lo ≤ s) (h2 : s ≤ hi) (he : lo' ≤ s → s ≤ hi' → r = s) (h3 : lo' ≤ r) (h4 : r ≤ hi') : (fit lo hi lo' hi').1 ≤ r ∧ r ≤ (fit lo hi lo' hi').2 := by
  unfold fit
  split
  · rename_i h
    have := he (by omega) (by omega)
    dsimp only
    omega
  · exact ⟨h3, h4⟩
theorem bm32 {s : Int} (h1 : lo32 ≤ s) (h2 : s ≤ hi32) : s.bmod (2 ^ 32) = s := by
  unfold lo32 at h1
  unfold hi32 at h2
  exact Int.bmod_eq_of_le (by omega) (by omega)
theorem bm64 {s : Int} (h1 : lo64 ≤ s) (h2 : s ≤ hi64) : s.bmod (2 ^ 64) = s := by
  unfold lo64 at h1
  unfold hi64 at h2
  exact Int.bmod_eq_of_le (by omega) (by omega)
theorem mul_lin {a a1 a2 : Int} (b : Int) (h1 : a1 ≤ a) (h2 : a ≤ a2) : min (a1 * b) (a2 * b) ≤ a * b ∧ a * b ≤ max (a1 * b) (a2 * b) := by
  rcases Int.le_total 0 b with hb | hb
  · have e1 := Int.mul_le_mul_of_nonneg_right h1 hb
    have e2 := Int.mul_le_mul_of_nonneg_right h2 hb
    omega
  · have e1 := Int.mul_le_mul_of_nonpos_right h1 hb
    have e2 := Int.mul_le_mul_of_nonpos_right h2 hb
    omega
theorem mul_cor {a a1 a2 b b1 b2 : Int} (h1 : a1 ≤ a) (h2 : a ≤ a2) (h3 : b1 ≤ b) (h4 : b ≤ b2) : min (min (a1 * b1) (a1 * b2)) (min (a2 * b1) (a2 * b2)) ≤ a * b ∧ a * b ≤ max (max (a1 * b1) (a1 * b2)) (max (a2 * b1) (a2 * b2)) := by
  have e := mul_lin b h1 h2
  have f1 := mul_lin a1 h3 h4
  have f2 := mul_lin a2 h3 h4
  rw [Int.mul_comm b1 a1, Int.mul_comm b2 a1, Int.mul_comm b a1] at f1
  rw [Int.mul_comm b1 a2, Int.mul_comm b2 a2, Int.mul_comm b a2] at f2
  omega
theorem bv_and {w : Nat} (x y : BitVec w) (h : 0 ≤ y.toInt) : 0 ≤ (x &&& y).toInt ∧ (x &&& y).toInt ≤ y.toInt := by
  have hy : 2 * y.toNat < 2 ^ w := by
    rw [BitVec.toInt_eq_toNat_cond] at h
    split at h
    · assumption
    · have := y.isLt; omega
  have hn : (x &&& y).toNat ≤ y.toNat := by rw [BitVec.toNat_and]; exact Nat.and_le_right
  rw [BitVec.toInt_eq_toNat_cond, BitVec.toInt_eq_toNat_cond, if_pos hy, if_pos (by omega)]
  omega
theorem bv_and' {w : Nat} (x y : BitVec w) (h : 0 ≤ x.toInt) : 0 ≤ (x &&& y).toInt ∧ (x &&& y).toInt ≤ x.toInt := by
  rw [BitVec.and_comm]; exact bv_and y x h
theorem and32 (x y : Int32) : (0 ≤ y.toInt → 0 ≤ (x &&& y).toInt ∧ (x &&& y).toInt ≤ y.toInt) ∧ (0 ≤ x.toInt → 0 ≤ (x &&& y).toInt ∧ (x &&& y).toInt ≤ x.toInt) := ⟨fun h => bv_and x.toBitVec y.toBitVec h, fun h => bv_and' x.toBitVec y.toBitVec h⟩
theorem and64 (x y : Int64) : (0 ≤ y.toInt → 0 ≤ (x &&& y).toInt ∧ (x &&& y).toInt ≤ y.toInt) ∧ (0 ≤ x.toInt → 0 ≤ (x &&& y).toInt ∧ (x &&& y).toInt ≤ x.toInt) := ⟨fun h => bv_and x.toBitVec y.toBitVec h, fun h => bv_and' x.toBitVec y.toBitVec h⟩
theorem div_nn {a b : Int} (ha : 0 ≤ a) (hb : 1 ≤ b) : a.tdiv b = a / b ∧ 0 ≤ a / b ∧ a / b ≤ a ∧ 0 ≤ a / b * b ∧ a / b * b ≤ a ∧ 0 ≤ a - a / b * b ∧ a - a / b * b ≤ b - 1 := by
  have h1 := Int.tdiv_eq_ediv_of_nonneg ha (b := b)
  have h2 := Int.ediv_nonneg ha (by omega : 0 ≤ b)
  have h3 := Int.ediv_le_self b ha
  have h4 := Int.emod_nonneg a (by omega : b ≠ 0)
  have h5 := Int.emod_lt_of_pos a (by omega : 0 < b)
  have h6 := Int.mul_ediv_add_emod a b
  rw [Int.mul_comm] at h6
  have h7 : 0 ≤ a / b * b := Int.mul_nonneg h2 (by omega)
  refine ⟨h1, h2, h3, h7, by omega, by omega, by omega⟩
theorem div32 {x y : Int32} (ha : 0 ≤ x.toInt) (hb : 1 ≤ y.toInt) : (x / y).toInt = x.toInt / y.toInt := by
  rw [Int32.toInt_div_of_ne_right _ _ (fun e => by rw [e] at hb; revert hb; decide), (div_nn ha hb).1]
theorem div64 {x y : Int64} (ha : 0 ≤ x.toInt) (hb : 1 ≤ y.toInt) : (x / y).toInt = x.toInt / y.toInt := by
  rw [Int64.toInt_div_of_ne_right _ _ (fun e => by rw [e] at hb; revert hb; decide), (div_nn ha hb).1]
theorem rem32 {x y : Int32} (ha : 0 ≤ x.toInt) (hb : 1 ≤ y.toInt) : (x - x / y * y).toInt = x.toInt - x.toInt / y.toInt * y.toInt := by
  have h := div_nn ha hb
  have hx := rng32 x
  have hy := rng32 y
  unfold lo32 hi32 at hx hy
  rw [Int32.toInt_sub, Int32.toInt_mul, div32 ha hb, bm32 (s := x.toInt / y.toInt * y.toInt) (by unfold lo32; omega) (by unfold hi32; omega)]
  exact bm32 (by unfold lo32; omega) (by unfold hi32; omega)
theorem rem64 {x y : Int64} (ha : 0 ≤ x.toInt) (hb : 1 ≤ y.toInt) : (x - x / y * y).toInt = x.toInt - x.toInt / y.toInt * y.toInt := by
  have h := div_nn ha hb
  have hx := rng64 x
  have hy := rng64 y
  unfold lo64 hi64 at hx hy
  rw [Int64.toInt_sub, Int64.toInt_mul, div64 ha hb, bm64 (s := x.toInt / y.toInt * y.toInt) (by unfold lo64; omega) (by unfold hi64; omega)]
  exact bm64 (by unfold lo64; omega) (by unfold hi64; omega)
theorem shr_nn (a : Int) (k : Nat) (h : 0 ≤ a) : 0 ≤ a >>> k ∧ a >>> k ≤ a := by
  rw [Int.shiftRight_eq_div_pow]
  exact ⟨Int.ediv_nonneg h (by exact_mod_cast Nat.zero_le _), Int.ediv_le_self _ h⟩
theorem bI_ok {op : Nat} {x y : Int32} {p q : Int × Int} (hp1 : p.1 ≤ x.toInt) (hp2 : x.toInt ≤ p.2) (hq1 : q.1 ≤ y.toInt) (hq2 : y.toInt ≤ q.2) : (bI op p q (lo32, hi32)).1 ≤ (bf op x y).toInt ∧ (bf op x y).toInt ≤ (bI op p q (lo32, hi32)).2 := by
  have hr := rng32 (bf op x y)
  have hF : ((lo32, hi32) : Int × Int).1 ≤ (bf op x y).toInt ∧ (bf op x y).toInt ≤ ((lo32, hi32) : Int × Int).2 := hr
  unfold bI
  split
  · exact fit_ok (s := x.toInt + y.toInt) (by omega) (by omega) (fun h1 h2 => by show (x + y).toInt = _; rw [Int32.toInt_add]; exact bm32 h1 h2) hr.1 hr.2
  · exact fit_ok (s := x.toInt - y.toInt) (by omega) (by omega) (fun h1 h2 => by show (x - y).toInt = _; rw [Int32.toInt_sub]; exact bm32 h1 h2) hr.1 hr.2
  · have hm := mul_cor hp1 hp2 hq1 hq2
    exact fit_ok (s := x.toInt * y.toInt) hm.1 hm.2 (fun h1 h2 => by show (x * y).toInt = _; rw [Int32.toInt_mul]; exact bm32 h1 h2) hr.1 hr.2
  · have ha := and32 x y
    show _ ≤ (x &&& y).toInt ∧ (x &&& y).toInt ≤ _
    split
    · rename_i h; have h1 := ha.1 (by omega); have h2 := ha.2 (by omega); dsimp only; omega
    · split
      · have h1 := ha.1 (by omega); dsimp only; omega
      · split
        · have h2 := ha.2 (by omega); dsimp only; omega
        · exact hF
  · split
    · show _ ≤ (x >>> (y &&& 31)).toInt ∧ (x >>> (y &&& 31)).toInt ≤ _
      rw [pk_shr x (y &&& 31) _ rfl]
      have := shr_nn x.toInt ((y &&& 31).toBitVec.smod 32).toNat (by omega)
      dsimp only; omega
    · exact hF
  · split
    · rename_i h
      have h2 := div_nn (a := x.toInt) (b := y.toInt) (by omega) (by omega)
      show _ ≤ (x / y).toInt ∧ (x / y).toInt ≤ _
      rw [div32 (by omega) (by omega)]
      dsimp only; omega
    · exact hF
  · split
    · rename_i h
      have h2 := div_nn (a := x.toInt) (b := y.toInt) (by omega) (by omega)
      show _ ≤ (x - x / y * y).toInt ∧ (x - x / y * y).toInt ≤ _
      rw [rem32 (by omega) (by omega)]
      dsimp only; omega
    · exact hF
  · show _ ≤ (if x < y then y else x).toInt ∧ (if x < y then y else x).toInt ≤ _
    split
    · rename_i h; rw [Int32.lt_iff_toInt_lt] at h; dsimp only; omega
    · rename_i h; rw [Int32.lt_iff_toInt_lt] at h; dsimp only; omega
  · show _ ≤ (if y < x then y else x).toInt ∧ (if y < x then y else x).toInt ≤ _
    split
    · rename_i h; rw [Int32.lt_iff_toInt_lt] at h; dsimp only; omega
    · rename_i h; rw [Int32.lt_iff_toInt_lt] at h; dsimp only; omega
  · exact hF
def lf (op : Nat) (x y : Int64) : Int64 := match op with
  | 1 => x + y
  | 3 => x * y
  | 4 => x &&& y
  | 10 => x / y
  | 11 => x - x / y * y
  | _ => 0
def lop (op : Nat) : Bool := match op with
  | 1 => true
  | 3 => true
  | 4 => true
  | 10 => true
  | 11 => true
  | _ => false
theorem lI_ok {op : Nat} (ho : lop op = true) {x y : Int64} {p q : Int × Int} (hp1 : p.1 ≤ x.toInt) (hp2 : x.toInt ≤ p.2) (hq1 : q.1 ≤ y.toInt) (hq2 : y.toInt ≤ q.2) : (bI op p q (lo64, hi64)).1 ≤ (lf op x y).toInt ∧ (lf op x y).toInt ≤ (bI op p q (lo64, hi64)).2 := by
  have hr := rng64 (lf op x y)
  have hF : ((lo64, hi64) : Int × Int).1 ≤ (lf op x y).toInt ∧ (lf op x y).toInt ≤ ((lo64, hi64) : Int × Int).2 := hr
  unfold bI
  split
  · exact fit_ok (s := x.toInt + y.toInt) (by omega) (by omega) (fun h1 h2 => by show (x + y).toInt = _; rw [Int64.toInt_add]; exact bm64 h1 h2) hr.1 hr.2
  · cases ho
  · have hm := mul_cor hp1 hp2 hq1 hq2
    exact fit_ok (s := x.toInt * y.toInt) hm.1 hm.2 (fun h1 h2 => by show (x * y).toInt = _; rw [Int64.toInt_mul]; exact bm64 h1 h2) hr.1 hr.2
  · have ha := and64 x y
    show _ ≤ (x &&& y).toInt ∧ (x &&& y).toInt ≤ _
    split
    · rename_i h; have h1 := ha.1 (by omega); have h2 := ha.2 (by omega); dsimp only; omega
    · split
      · have h1 := ha.1 (by omega); dsimp only; omega
      · split
        · have h2 := ha.2 (by omega); dsimp only; omega
        · exact hF
  · cases ho
  · split
    · rename_i h
      have h2 := div_nn (a := x.toInt) (b := y.toInt) (by omega) (by omega)
      show _ ≤ (x / y).toInt ∧ (x / y).toInt ≤ _
      rw [div64 (by omega) (by omega)]
      dsimp only; omega
    · exact hF
  · split
    · rename_i h
      have h2 := div_nn (a := x.toInt) (b := y.toInt) (by omega) (by omega)
      show _ ≤ (x - x / y * y).toInt ∧ (x - x / y * y).toInt ≤ _
      rw [rem64 (by omega) (by omega)]
      dsimp only; omega
    · exact hF
  · cases ho
  · cases ho
  · exact hF
theorem kbin_ok {X : Scr} {ν : Nat → Int} {K : Kn} {σ : St} (h : vOK X ν K σ) {op a b : Nat} (ho : op ≠ 0 ∧ op ≠ 50) {x y : Int32} (hx : x.toInt = ν a) (hy : y.toInt = ν b) {z : Kn × Nat} (hk : kbin K op a b = some z) : Grow X ν K σ z.1 z.2 (bf op x y).toInt := by
  have hden : den ν (op, (a : Int), (b : Int)) = (bf op x y).toInt := by
    unfold den
    split
    · rename_i e; exact absurd e ho.1
    · rename_i e; exact absurd e ho.2
    · dsimp only
      rw [Int.toNat_natCast, Int.toNat_natCast, ← hx, ← hy, Int32.ofInt_toInt, Int32.ofInt_toInt]
  unfold kbin at hk
  split at hk
  · rename_i p q hp hq
    have h1 := kiv_ok h hp
    have h2 := kiv_ok h hq
    have ht : tOK (kN K) (op, (a : Int), (b : Int)) := Or.inr ⟨by simpa using h1.1, by simpa using h2.1⟩
    have hb := bI_ok (op := op) (x := x) (y := y) (p := p) (q := q) (by rw [hx]; exact h1.2.1) (by rw [hx]; exact h1.2.2) (by rw [hy]; exact h2.2.1) (by rw [hy]; exact h2.2.2)
    dsimp only at hk
    split at hk
    · rename_i s hs
      cases hk
      obtain ⟨c1, c2, c3⟩ := h.2.2.1 _ (dlk_mem hs)
      have := Grow.same h c1
      rw [c3, hden] at this
      exact this
    · have hg := kdef_ok h ht (lo := (bI op p q (lo32, hi32)).1) (hi := (bI op p q (lo32, hi32)).2) (by rw [hden]; exact hb.1) (by rw [hden]; exact hb.2)
      rw [hden] at hg
      split at hk
      · rename_i hc
        cases hk
        obtain ⟨ν', x1, x2, x3, x4, x5, x6⟩ := hg
        obtain ⟨e1, e2, e3, e4⟩ := hc
        have hv : ν' (kdef K (op, (a : Int), (b : Int)) (bI op p q (lo32, hi32)).1 (bI op p q (lo32, hi32)).2).2 = ν' a + q.1 := by
          rw [x5, x1 a h1.1, e1]
          show (x + y).toInt = _
          rw [Int32.toInt_add, hx, hy, show ν b = q.1 by omega]
          exact bm32 (by omega) (by omega)
        have := addfs_ok x3 x4 (by omega : a < _) hv
        exact ⟨ν', x1, by dsimp only; rw [this.2.1]; exact x2, this.1, by dsimp only; rw [this.2.1]; exact x4, x5, by dsimp only; rw [this.2.2]; exact x6⟩
      · split at hk
        · rename_i hc
          cases hk
          obtain ⟨ν', x1, x2, x3, x4, x5, x6⟩ := hg
          obtain ⟨e1, e2, e3, e4⟩ := hc
          have hv : ν' (kdef K (op, (a : Int), (b : Int)) (bI op p q (lo32, hi32)).1 (bI op p q (lo32, hi32)).2).2 = ν' a + -q.1 := by
            rw [x5, x1 a h1.1, e1]
            show (x - y).toInt = _
            rw [Int32.toInt_sub, hx, hy, show ν b = q.1 by omega]
            exact bm32 (by omega) (by omega)
          have := addfs_ok x3 x4 (by omega : a < _) hv
          exact ⟨ν', x1, by dsimp only; rw [this.2.1]; exact x2, this.1, by dsimp only; rw [this.2.1]; exact x4, x5, by dsimp only; rw [this.2.2]; exact x6⟩
        · cases hk
          exact hg
  · cases hk
