/-! the law's loop -/
theorem ctl_ok : ∀ c ∈ ctl_143, Sat c := List.forall_mem_cons.mpr ⟨sat_54, List.forall_mem_cons.mpr ⟨sat_55, List.forall_mem_cons.mpr ⟨sat_56, List.forall_mem_cons.mpr ⟨sat_57, List.forall_mem_cons.mpr ⟨sat_58, List.forall_mem_cons.mpr ⟨sat_59, List.forall_mem_cons.mpr ⟨sat_60, List.forall_mem_cons.mpr ⟨sat_61, List.forall_mem_cons.mpr ⟨sat_62, List.forall_mem_cons.mpr ⟨sat_63, List.forall_mem_cons.mpr ⟨sat_64, List.forall_mem_cons.mpr ⟨sat_65, List.forall_mem_cons.mpr ⟨sat_66, List.forall_mem_cons.mpr ⟨sat_67, List.forall_mem_cons.mpr ⟨sat_68, List.forall_mem_cons.mpr ⟨sat_69, List.forall_mem_cons.mpr ⟨sat_70, List.forall_mem_cons.mpr ⟨sat_71, List.forall_mem_cons.mpr ⟨sat_72, List.forall_mem_cons.mpr ⟨sat_73, List.forall_mem_cons.mpr ⟨sat_74, List.forall_mem_cons.mpr ⟨sat_75, List.forall_mem_cons.mpr ⟨sat_76, List.forall_mem_cons.mpr ⟨sat_77, List.forall_mem_cons.mpr ⟨sat_78, List.forall_mem_cons.mpr ⟨sat_79, List.forall_mem_cons.mpr ⟨sat_80, List.forall_mem_cons.mpr ⟨sat_81, List.forall_mem_cons.mpr ⟨sat_82, List.forall_mem_cons.mpr ⟨sat_91, List.forall_mem_cons.mpr ⟨sat_92, List.forall_mem_cons.mpr ⟨sat_114, List.forall_mem_cons.mpr ⟨sat_115, List.forall_mem_cons.mpr ⟨sat_116, List.forall_mem_cons.mpr ⟨sat_117, List.forall_mem_cons.mpr ⟨sat_118, List.forall_mem_cons.mpr ⟨sat_119, List.forall_mem_cons.mpr ⟨sat_120, List.forall_mem_cons.mpr ⟨sat_121, List.forall_mem_cons.mpr ⟨sat_122, List.forall_mem_cons.mpr ⟨sat_123, List.forall_mem_cons.mpr ⟨sat_124, List.forall_mem_cons.mpr ⟨sat_125, List.forall_mem_cons.mpr ⟨sat_126, List.forall_mem_cons.mpr ⟨sat_127, List.forall_mem_cons.mpr ⟨sat_128, List.forall_mem_cons.mpr ⟨sat_129, List.forall_mem_cons.mpr ⟨sat_130, List.forall_mem_cons.mpr ⟨sat_131, List.forall_mem_cons.mpr ⟨sat_132, List.forall_mem_cons.mpr ⟨sat_133, List.forall_mem_cons.mpr ⟨sat_134, List.forall_mem_cons.mpr ⟨sat_135, List.forall_mem_cons.mpr ⟨sat_136, List.forall_mem_cons.mpr ⟨sat_137, List.forall_mem_cons.mpr ⟨sat_138, List.forall_mem_cons.mpr ⟨sat_139, List.forall_mem_cons.mpr ⟨sat_140, List.forall_mem_cons.mpr ⟨sat_141, List.forall_mem_cons.mpr ⟨sat_142, fun _ h => absurd h List.not_mem_nil⟩⟩⟩⟩⟩⟩⟩⟩⟩⟩⟩⟩⟩⟩⟩⟩⟩⟩⟩⟩⟩⟩⟩⟩⟩⟩⟩⟩⟩⟩⟩⟩⟩⟩⟩⟩⟩⟩⟩⟩⟩⟩⟩⟩⟩⟩⟩⟩⟩⟩⟩⟩⟩⟩⟩⟩⟩⟩⟩⟩
def lawF : List Fc := [((2, 1, 1), (2, 39, 14), 0), ((2, 39, 14), (2, 1, 1), 0)]
theorem law_pw {L : Nat} {xs : Nat → Int32} (hL : L ≤ 320) {σ0 : St} (h0 : Inv σ0) (hf0 : ∀ f ∈ lawF, fcS [.ref 1000, .int (Int32.ofNat L)] σ0 σ0 none [some (.ref 1000), some (.ref 0), some (.ref 39), some (.int 0)] f) : PW (some (L, xs)) 194 18 [some (.ref 1000), some (.ref 0), some (.ref 39), some (.int 0)] [] σ0 (fun r _ => r = some (.int 1)) := by
  refine cuts_pw (ct := ctl_143) (con := con_143) (cuts := cut_143) (X := some (L, xs)) (vs := [.ref 1000, .int (Int32.ofNat L)]) (σ0 := σ0) (Q := fun r _ => r = some (.int 1)) (n := 1051) (lw := true) ctl_ok ?_ kc_law h0 ?_ ?_ _ (18, [some (2, 1000, 0), some (2, 0, 0), some (2, 39, 0), some (0, 0, 4095)], [], [((2, 1, 1), (2, 39, 14), 0), ((2, 39, 14), (2, 1, 1), 0)], false, [((4, 3, 0), true)]) List.mem_cons_self _ σ0 h0 (fun _ _ _ _ => rfl) ?_ (Nat.le_refl _)
  · intro r σ' _ _ hr ha
    obtain ⟨x, rfl⟩ := hr.2 (by decide +kernel)
    obtain ⟨a, ha1, ha2⟩ := ha
    have e1 : cAl con_143 = [(1, 1, none, [], [], false)] := rfl
    rw [e1, List.mem_singleton] at ha1
    subst ha1
    obtain ⟨h1, h2, -⟩ := ha2.1 x rfl
    have h3 : x.toInt = (1 : Int32).toInt := by
      have h4 : (1 : Int32).toInt = 1 := by decide
      dsimp only at h1 h2
      omega
    rw [Int32.toInt_inj.mp h3]
  · refine ⟨rfl, ⟨_, rfl, ?_, ?_⟩, trivial⟩
    · rw [Int32.toInt_ofNat_of_lt (by omega)]; dsimp only; omega
    · rw [Int32.toInt_ofNat_of_lt (by omega)]; dsimp only; omega
  · exact fun _ => ⟨L, xs, rfl, rfl, by omega⟩
  · refine ⟨⟨rfl, fun i s hi => ?_⟩, (fun q hq => by cases hq), hf0, fun e => by cases e⟩
    match i, hi with
    | 0, hi => cases hi; exact ⟨_, rfl, rfl⟩
    | 1, hi => cases hi; exact ⟨_, rfl, rfl⟩
    | 2, hi => cases hi; exact ⟨_, rfl, rfl⟩
    | 3, hi => cases hi; exact ⟨_, rfl, 0, rfl, by decide, by decide⟩
    | i + 4, hi => simp at hi
