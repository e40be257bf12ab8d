/-! THE SETS THAT A PLACE SHOWS -/
theorem c_setIn {α : Nat → Nat → Nat} {σ : jj_S} {η : jj_H} {p : Nat} (h : x_pl0 α σ η p) (hok : s_okp σ p) (q r : Nat) (hq : q < 2147483648) (hr : r < 2147483648) : jj_Ht mX3_setIn [.ref (α 0 p), .int (nI q), .int (nI r)] η 0 0 (fun v η' => v = some (.int (if r < 1000 then nI 1 <<< (nI (s_fl σ p q r) &&& 31) else 0)) ∧ η' = η) := by
  have e9 : (nI 999).toInt = 999 := rfl
  refine jj_go tok_X3_setIn zok_X3 py_3 rfl 20 fun J => ?_
  refine ⟨fun c1 => ?_, fun c1 => ⟨_, h.1, 0, 0, _, c_flawsIn h hok q r hq hr, Nat.le_refl _, Nat.le_refl _, fun v η' hv => ?_⟩⟩
  · rw [cb_gt, e9, iN hr] at c1
    exact ⟨trivial, ⟨by rw [if_neg (by omega)], rfl⟩, Nat.zero_le _, Nat.zero_le _⟩
  · obtain ⟨rfl, rfl⟩ := hv
    rw [cb_gt, e9, iN hr] at c1
    exact ⟨trivial, ⟨by rw [if_pos (by omega)], rfl⟩, Nat.zero_le _, Nat.zero_le _⟩
/-- the boundaries of the flaws at a place, up to the j-th -/
def s_bd (σ : jj_S) (p q n r : Nat) : Prop := r = 0 ∨ ∃ j, j < n ∧ 8 * σ 3 (5 * (10 * p + j)) + σ 3 (5 * (10 * p + j) + 1) = q ∧ (r = σ 3 (5 * (10 * p + j) + 3) ∨ r = σ 3 (5 * (10 * p + j) + 4)) ∧ r < 1000
theorem i_or (x y : Int32) (s : Nat) : (x ||| y).toBitVec.getLsbD s = (x.toBitVec.getLsbD s || y.toBitVec.getLsbD s) := by
  rw [Int32.toBitVec_or, BitVec.getLsbD_or]
theorem i_two {k s : Nat} (hk : k < 32) (hs : s < 32) : (nI 1 <<< (nI k &&& 31)).toBitVec.getLsbD s = decide (k = s) := by
  rw [sh_two k hk, BitVec.getLsbD_twoPow]
  simp [hs]
  omega
theorem i_zero (s : Nat) : (0 : Int32).toBitVec.getLsbD s = false := by
  show (0#32).getLsbD s = false
  simp
theorem c_findShownSets {α : Nat → Nat → Nat} {σ : jj_S} {η : jj_H} {p : Nat} (h : x_pl0 α σ η p) (hok : s_okp σ p) (q : Nat) (hq : q < 64) (g : Nat → Int32) (hg : η (α 2 p) = some (x_i 64 g)) : jj_Ht mX3_findShownSets [.ref (α 0 p), .int (nI q)] η 0 0 (fun v η' => v = none ∧ ∃ S : Int32, η' = jj_up η (α 2 p) (x_i 64 (upd g q S)) ∧ ∀ s, s < 32 → (S.toBitVec.getLsbD s = true ↔ ∃ r, s_bd σ p q (σ 2 p) r ∧ s_fl σ p q r = s)) := by
  obtain ⟨h0, ⟨f, hf, hff⟩, hfl⟩ := id h
  have e10 : (nI 10).toInt = 10 := rfl
  have e64 : (nI 64).toInt = 64 := rfl
  refine jj_lp tok_X3_findShownSets zok_X3 py_3 rfl fun J run => ?_
  have loop : ∀ m i, i + m = 10 → ∀ S : Int32, (∀ s, s < 32 → (S.toBitVec.getLsbD s = true ↔ ∃ r, s_bd σ p q (min i (σ 2 p)) r ∧ s_fl σ p q r = s)) → J η 0 0 35 [(0, .ref (α 0 p)), (1, .int (nI q)), (2, .int S), (3, .ref (α 1 p)), (4, .int (nI 10)), (5, .int (nI i))] [] := by
    intro m
    induction m with
    | zero =>
      intro i hi S hS
      refine run [] 30 ?_
      refine ⟨fun c1 => ?_, fun c1 => ?_⟩
      · refine ⟨_, h0, _, _, _, hg, rfl, hq, ⟨rfl, S, rfl, ?_⟩, Nat.zero_le _, Nat.zero_le _⟩
        rw [show min i (σ 2 p) = σ 2 p by have := hok.1; omega] at hS
        exact hS
      · rw [cb_ge, e10, iN (by omega)] at c1
        omega
    | succ m ih =>
      intro i hi S hS
      refine run [(35, 6)] 80 ?_
      refine ⟨fun c1 => ?_, fun c1 => ?_⟩
      · rw [cb_ge, e10, iN (by omega)] at c1
        omega
      have ih := ih (i + 1) (by omega)
      rw [← nI_add] at ih
      by_cases hin : i < σ 2 p
      · obtain ⟨o1, o2, o3, o4, o5⟩ := hok.2 i hin
        have o6 := hok.1
        rw [show min i (σ 2 p) = i by omega] at hS
        rw [show min (i + 1) (σ 2 p) = i + 1 by omega] at ih
        refine ⟨_, _, _, i, some (α 3 (10 * p + i)), hf, rfl, by omega, by rw [hff i (by omega), if_pos hin], ?_⟩
        refine ⟨_, hfl i hin, fun c2 => ?_, fun c2 => ?_⟩
        · rw [cb_ne, iN (by omega), iN (by omega)] at c2
          refine ih S fun s hs => (hS s hs).trans ⟨?_, ?_⟩
          · rintro ⟨r, hr | ⟨j, hj, hr⟩, e⟩
            · exact ⟨r, Or.inl hr, e⟩
            · exact ⟨r, Or.inr ⟨j, by omega, hr⟩, e⟩
          · rintro ⟨r, hr | ⟨j, hj, hr, hr2⟩, e⟩
            · exact ⟨r, Or.inl hr, e⟩
            · refine ⟨r, Or.inr ⟨j, ?_, hr, hr2⟩, e⟩
              rcases Nat.lt_or_ge j i with z | z
              · exact z
              · have : j = i := by omega
                subst this
                omega
        · rw [cb_ne, iN (by omega), iN (by omega)] at c2
          have c2 : 8 * σ 3 (5 * (10 * p + i)) + σ 3 (5 * (10 * p + i) + 1) = q := by omega
          refine ⟨_, hfl i hin, _, h0, 0, 0, _, c_setIn h hok q _ (by omega) (by omega), Nat.le_refl _, Nat.le_refl _, fun v η' hv => ?_⟩
          obtain ⟨rfl, rfl⟩ := hv
          refine ⟨_, hfl i hin, _, h0, 0, 0, _, c_setIn h hok q _ (by omega) (by omega), Nat.le_refl _, Nat.le_refl _, fun v η' hv => ?_⟩
          obtain ⟨rfl, rfl⟩ := hv
          refine ih _ fun s hs => ?_
          have bit : ∀ r, ((if r < 1000 then nI 1 <<< (nI (s_fl σ p q r) &&& 31) else 0 : Int32).toBitVec.getLsbD s = true ↔ r < 1000 ∧ s_fl σ p q r = s) := by
            intro r
            split
            next z => rw [i_two (s_fl_lt hok q r) hs]; simp [z]
            next z => rw [i_zero]; simp [z]
          rw [i_or, i_or, Bool.or_eq_true, Bool.or_eq_true, hS s hs, bit, bit]
          constructor
          · rintro (⟨r, hr | ⟨j, hj, hr⟩, e⟩ | ⟨z, e⟩ | ⟨z, e⟩)
            · exact ⟨r, Or.inl hr, e⟩
            · exact ⟨r, Or.inr ⟨j, by omega, hr⟩, e⟩
            · exact ⟨_, Or.inr ⟨i, by omega, c2, Or.inl rfl, z⟩, e⟩
            · exact ⟨_, Or.inr ⟨i, by omega, c2, Or.inr rfl, z⟩, e⟩
          · rintro ⟨r, hr | ⟨j, hj, hr, hr2, hr3⟩, e⟩
            · exact Or.inl ⟨r, Or.inl hr, e⟩
            · rcases Nat.lt_or_ge j i with z | z
              · exact Or.inl ⟨r, Or.inr ⟨j, z, hr, hr2, hr3⟩, e⟩
              · have : j = i := by omega
                subst this
                rcases hr2 with rfl | rfl
                · exact Or.inr (Or.inl ⟨hr3, e⟩)
                · exact Or.inr (Or.inr ⟨hr3, e⟩)
      · rw [show min i (σ 2 p) = σ 2 p by omega] at hS
        rw [show min (i + 1) (σ 2 p) = σ 2 p by omega] at ih
        exact ⟨_, _, _, i, none, hf, rfl, by omega, by rw [hff i (by omega), if_neg hin], ih S hS⟩
  refine run [(35, 6)] 40 ?_
  refine ⟨fun c1 => ?_, fun c1 => ⟨_, h0, _, _, _, hg, fun c2 => ?_, fun c2 => ?_⟩⟩
  · rw [cb_lt, i0, iN (by omega)] at c1
    omega
  · refine ⟨_, h0, 0, 0, _, c_flawsIn h hok q 0 (by omega) (by omega), Nat.le_refl _, Nat.le_refl _, fun v η' hv => ?_⟩
    obtain ⟨rfl, rfl⟩ := hv
    refine ⟨_, h0, _, _, _, hf, ?_⟩
    refine loop 10 0 rfl _ fun s hs => ?_
    rw [i_two (s_fl_lt hok q 0) hs, decide_eq_true_eq]
    constructor
    · intro e
      exact ⟨0, Or.inl rfl, e⟩
    · rintro ⟨r, rfl | ⟨j, hj, -⟩, e⟩
      · exact e
      · omega
  · rw [cb_lt, e64, iN (by omega)] at c2
    omega
