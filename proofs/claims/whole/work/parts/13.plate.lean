/-! PLATES -/
def s_okp (σ : jj_S) (p : Nat) : Prop := (1 ≤ σ 0 p ∧ σ 0 p ≤ 8 ∧ 1 ≤ σ 1 p ∧ σ 1 p ≤ 8 ∧ σ 2 p ≤ 10) ∧ ∀ j, j < σ 2 p → σ 3 (5 * (10 * p + j)) < σ 0 p ∧ σ 3 (5 * (10 * p + j) + 1) < σ 1 p ∧ σ 3 (5 * (10 * p + j) + 2) ≤ 4 ∧ σ 3 (5 * (10 * p + j) + 3) < σ 3 (5 * (10 * p + j) + 4) ∧ σ 3 (5 * (10 * p + j) + 4) < 2147483648
/-- the plate but its sets -/
def x_pl0 (α : Nat → Nat → Nat) (σ : jj_S) (η : jj_H) (p : Nat) : Prop :=
  η (α 0 p) = some (x_o 3 [.int (nI (σ 0 p)), .int (nI (σ 1 p)), .ref (α 1 p), .int (nI (σ 2 p)), .ref (α 2 p)]) ∧
  (∃ f, η (α 1 p) = some (x_r 7 10 f) ∧ ∀ j, j < 10 → f j = if j < σ 2 p then some (α 3 (10 * p + j)) else none) ∧
  ∀ j, j < σ 2 p → η (α 3 (10 * p + j)) = some (x_o 1 [.int (nI (8 * σ 3 (5 * (10 * p + j)) + σ 3 (5 * (10 * p + j) + 1))), .int (nI (σ 3 (5 * (10 * p + j) + 2))), .int (nI (σ 3 (5 * (10 * p + j) + 3))), .int (nI (σ 3 (5 * (10 * p + j) + 4)))])
theorem x_plate.pl0 {α : Nat → Nat → Nat} {σ : jj_S} {η : jj_H} {p : Nat} (h : x_plate α σ η p) : x_pl0 α σ η p := ⟨h.1, h.2.1, h.2.2.2⟩
theorem s_fln_lt {σ : jj_S} {p : Nat} (h : s_okp σ p) (q r : Nat) : ∀ n, n ≤ σ 2 p → s_fln σ p q r n < 32
  | 0, _ => Nat.zero_lt_succ 31
  | n + 1, hn => by
    have ih := s_fln_lt h q r n (by omega)
    have hk := (h.2 n (by omega)).2.2.1
    unfold s_fln
    split
    · have h2 : 2 ^ σ 3 (5 * (10 * p + n) + 2) < 2 ^ 5 := Nat.pow_lt_pow_right (by omega) (by omega)
      exact Nat.or_lt_two_pow (n := 5) ih h2
    · exact ih
theorem s_fl_lt {σ : jj_S} {p : Nat} (h : s_okp σ p) (q r : Nat) : s_fl σ p q r < 32 := s_fln_lt h q r _ (Nat.le_refl _)
theorem sh_pow : ∀ k, k < 31 → nI 1 <<< (nI k &&& 31) = nI (2 ^ k) := by decide +kernel
theorem sh_two : ∀ k, k < 32 → (nI 1 <<< (nI k &&& 31)).toBitVec = BitVec.twoPow 32 k := by decide +kernel
theorem c_isThere (η : jj_H) (a pl kd fr to q r : Nat) (h : η a = some (x_o 1 [.int (nI pl), .int (nI kd), .int (nI fr), .int (nI to)])) (hb : pl < 2147483648 ∧ fr < 2147483648 ∧ to < 2147483648 ∧ q < 2147483648 ∧ r < 2147483648) : jj_Ht mX1_isThere [.ref a, .int (nI q), .int (nI r)] η 0 0 (fun v η' => v = some (.int (b01 (decide (pl = q) && decide (fr ≤ r) && decide (r < to)))) ∧ η' = η) := by
  obtain ⟨b1, b2, b3, b4, b5⟩ := hb
  refine jj_go tok_X1_isThere zok_X1 py_1 rfl 20 fun J => ?_
  refine ⟨_, h, fun c1 => ?_, fun c1 => ⟨_, h, fun c2 => ?_, fun c2 => ⟨_, h, fun c3 => ?_, fun c3 => ?_⟩⟩⟩
  · rw [cb_ne, iN b1, iN b4] at c1
    exact ⟨Or.inl rfl, ⟨rz (by simp; omega), rfl⟩, Nat.zero_le _, Nat.zero_le _⟩
  · rw [cb_gt, iN b2, iN b5] at c2
    exact ⟨Or.inl rfl, ⟨rz (by simp; omega), rfl⟩, Nat.zero_le _, Nat.zero_le _⟩
  · rw [cb_ge, iN b3, iN b5] at c3
    exact ⟨Or.inl rfl, ⟨rz (by simp; omega), rfl⟩, Nat.zero_le _, Nat.zero_le _⟩
  · rw [cb_ne, iN b1, iN b4] at c1
    rw [cb_gt, iN b2, iN b5] at c2
    rw [cb_ge, iN b3, iN b5] at c3
    exact ⟨Or.inr rfl, ⟨ro (by simp; omega), rfl⟩, Nat.zero_le _, Nat.zero_le _⟩
theorem c_isFull {α : Nat → Nat → Nat} {σ : jj_S} {η : jj_H} {p : Nat} (h : x_pl0 α σ η p) (hok : s_okp σ p) : jj_Ht mX3_isFull [.ref (α 0 p)] η 0 0 (fun v η' => v = some (.int (b01 (decide (10 ≤ σ 2 p)))) ∧ η' = η) := by
  obtain ⟨h0, ⟨f, hf, -⟩, -⟩ := h
  have e10 : (nI 10).toInt = 10 := rfl
  have hb : σ 2 p < 2147483648 := by have := hok.1; omega
  refine jj_go tok_X3_isFull zok_X3 py_3 rfl 20 fun J => ?_
  refine ⟨_, h0, _, h0, _, _, _, hf, fun c1 => ?_, fun c1 => ?_⟩
  · rw [cb_lt, e10, iN hb] at c1
    exact ⟨Or.inl rfl, ⟨rz (by simp; omega), rfl⟩, Nat.zero_le _, Nat.zero_le _⟩
  · rw [cb_lt, e10, iN hb] at c1
    exact ⟨Or.inr rfl, ⟨ro (by simp; omega), rfl⟩, Nat.zero_le _, Nat.zero_le _⟩
theorem c_flawsIn {α : Nat → Nat → Nat} {σ : jj_S} {η : jj_H} {p : Nat} (h : x_pl0 α σ η p) (hok : s_okp σ p) (q r : Nat) (hq : q < 2147483648) (hr : r < 2147483648) : jj_Ht mX3_flawsIn [.ref (α 0 p), .int (nI q), .int (nI r)] η 0 0 (fun v η' => v = some (.int (nI (s_fl σ p q r))) ∧ η' = η) := by
  obtain ⟨h0, ⟨f, hf, hff⟩, hfl⟩ := h
  refine jj_lp tok_X3_flawsIn zok_X3 py_3 rfl fun J run => ?_
  have loop : ∀ m i, i + m = 10 → J η 0 0 16 [(0, .ref (α 0 p)), (1, .int (nI q)), (2, .int (nI r)), (3, .int (nI (s_fln σ p q r (min i (σ 2 p))))), (4, .ref (α 1 p)), (5, .int (nI 10)), (6, .int (nI i))] [] := by
    have e10 : (nI 10).toInt = 10 := rfl
    intro m
    induction m with
    | zero =>
      intro i hi
      refine run [] 20 ?_
      refine ⟨fun c1 => ?_, fun c1 => ?_⟩
      · rw [show min i (σ 2 p) = σ 2 p by have := hok.1; omega]
        exact ⟨trivial, ⟨rfl, rfl⟩, Nat.zero_le _, Nat.zero_le _⟩
      · rw [cb_ge, e10, iN (by omega)] at c1
        omega
    | succ m ih =>
      intro i hi
      refine run [(16, 7)] 60 ?_
      refine ⟨fun c1 => ?_, fun c1 => ?_⟩
      · rw [cb_ge, e10, iN (by omega)] at c1
        omega
      by_cases hin : i < σ 2 p
      · refine ⟨_, _, _, i, some (α 3 (10 * p + i)), hf, rfl, by omega, by rw [hff i (by omega), if_pos hin], ?_⟩
        obtain ⟨o1, o2, o3, o4, o5⟩ := hok.2 i hin
        have o6 := hok.1
        refine ⟨_, hfl i hin, 0, 0, _, c_isThere η _ _ _ _ _ q r (hfl i hin) ⟨by omega, by omega, by omega, hq, hr⟩, Nat.le_refl _, Nat.le_refl _, fun v η' hv => ?_⟩
        obtain ⟨rfl, rfl⟩ := hv
        have e1 : s_fln σ p q r (min (i + 1) (σ 2 p)) = if s_fl1 σ p q r i then s_fln σ p q r (min i (σ 2 p)) ||| 2 ^ σ 3 (5 * (10 * p + i) + 2) else s_fln σ p q r (min i (σ 2 p)) := by
          rw [show min (i + 1) (σ 2 p) = i + 1 by omega, show min i (σ 2 p) = i by omega]
          rfl
        have ih := ih (i + 1) (by omega)
        rw [← nI_add] at ih
        refine ⟨fun c2 => ?_, fun c2 => ⟨_, hfl i hin, ?_⟩⟩
        · have c2 := b01_eq0 c2
          rw [e1, if_neg (by unfold s_fl1; rw [c2]; simp)] at ih
          exact ih
        · have c2 : s_fl1 σ p q r i = true := b01_ne0 c2
          rw [e1, if_pos c2, ← fa_or, ← sh_pow _ (by omega)] at ih
          exact ih
      · refine ⟨_, _, _, i, none, hf, rfl, by omega, by rw [hff i (by omega), if_neg hin], ?_⟩
        have ih := ih (i + 1) (by omega)
        rw [← nI_add, show min (i + 1) (σ 2 p) = min i (σ 2 p) by omega] at ih
        exact ih
  refine run [(16, 7)] 20 ?_
  exact ⟨_, h0, _, _, _, hf, loop 10 0 rfl⟩
