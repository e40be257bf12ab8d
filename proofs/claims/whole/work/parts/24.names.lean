/-! THE BUREAU: WHICH STAMPS HANG TOGETHER -/
def s_jnn (σ : jj_S) (a b : Nat) : Nat → Bool
  | 0 => false
  | n + 1 => s_jnn σ a b n || s_fit σ a n b
def s_jn (σ : jj_S) (a b : Nat) : Bool := s_jnn σ a b 4
theorem s_jnn_t {σ : jj_S} {a b n : Nat} (h : s_jnn σ a b n = true) : ∀ m, s_jnn σ a b (n + m) = true
  | 0 => h
  | m + 1 => by
    show (s_jnn σ a b (n + m) || _) = true
    rw [s_jnn_t h m]
    rfl
theorem c_joinSomewhere {X : Nat → Nat} {α : Nat → Nat → Nat} {τ : Nat → Nat} {σ : jj_S} {η : jj_H} (h : x_rep X α τ σ η) (a b : Nat) (ha : a < σ 12 3) (hb : b < σ 12 3) : jj_Ht mX6_joinSomewhere [.ref (X 0), .int (nI a), .int (nI b)] η 0 0 (fun v η' => v = some (.int (b01 (s_jn σ a b))) ∧ η' = η) := by
  have h0 := h.2.2.1
  obtain ⟨k1, -⟩ := h.kk ha
  have e4 : (nI 4).toInt = 4 := rfl
  refine jj_lp tok_X6_joinSomewhere zok_X6 py_6 rfl fun J run => ?_
  have loop : ∀ m i, i + m = 4 → s_jnn σ a b i = false → J η 0 0 27 [(0, .ref (X 0)), (1, .int (nI a)), (2, .int (nI b)), (3, .ref (α 6 a)), (4, .ref (α 6 b)), (5, .int (nI i))] [] := by
    intro m
    induction m with
    | zero =>
      intro i hi hn
      refine run [] 20 ?_
      refine ⟨fun c1 => ?_, fun c1 => ?_⟩
      · rw [show i = 4 by omega] at hn
        exact ⟨Or.inl rfl, ⟨rz hn, rfl⟩, Nat.zero_le _, Nat.zero_le _⟩
      · rw [cb_ge, e4, iN (by omega)] at c1
        omega
    | succ m ih =>
      intro i hi hn
      refine run [(27, 6)] 40 ?_
      have ih := ih (i + 1) (by omega)
      rw [← nI_add i 1] at ih
      refine ⟨fun c1 => ?_, fun c1 => ⟨_, k1, 0, 0, _, c_joins h a b i ha hb (by omega), Nat.le_refl _, Nat.le_refl _, fun v η' hv => ?_⟩⟩
      · rw [cb_ge, e4, iN (by omega)] at c1
        omega
      obtain ⟨rfl, rfl⟩ := hv
      refine ⟨fun c2 => ?_, fun c2 => ?_⟩
      · have c2 := b01_eq0 c2
        refine ih ?_
        show (s_jnn σ a b i || _) = false
        rw [hn, c2]
        rfl
      · have c2 := b01_ne0 c2
        have z : s_jnn σ a b (i + 1) = true := by
          show (s_jnn σ a b i || _) = true
          rw [c2]
          exact Bool.or_true _
        have z := s_jnn_t z m
        rw [show i + 1 + m = 4 by omega] at z
        exact ⟨Or.inr rfl, ⟨ro z, rfl⟩, Nat.zero_le _, Nat.zero_le _⟩
  refine run [(27, 6)] 40 ?_
  refine ⟨_, h0, 0, 0, _, c_stampN_some h a ha, Nat.le_refl _, Nat.le_refl _, fun v η' hv => ?_⟩
  obtain ⟨rfl, rfl⟩ := hv
  refine ⟨_, h0, 0, 0, _, c_stampN_some h b hb, Nat.le_refl _, Nat.le_refl _, fun v η'' hv => ?_⟩
  obtain ⟨rfl, rfl⟩ := hv
  exact loop 4 0 rfl rfl
/-- pairs (a, b) with a < b that fit -/
def s_fpr (σ : jj_S) (b : Nat) (s : Nat) : Nat → Nat
  | 0 => s
  | a + 1 => if s_jn σ a b then s_fpr σ b s a + 1 else s_fpr σ b s a
def s_fp (σ : jj_S) : Nat → Nat
  | 0 => 0
  | b + 1 => s_fpr σ b (s_fp σ b) b
theorem s_fpr_le (σ : jj_S) (b s : Nat) : ∀ a, s_fpr σ b s a ≤ s + a
  | 0 => Nat.le_refl _
  | a + 1 => by
    have := s_fpr_le σ b s a
    unfold s_fpr
    split <;> omega
theorem s_fp_le (σ : jj_S) : ∀ b, b ≤ 40 → s_fp σ b ≤ 40 * b
  | 0, _ => Nat.le_refl _
  | b + 1, hb => by
    have := s_fp_le σ b (by omega)
    have := s_fpr_le σ b (s_fp σ b) b
    show s_fpr σ b (s_fp σ b) b ≤ _
    omega
theorem c_fittingPairs {X : Nat → Nat} {α : Nat → Nat → Nat} {τ : Nat → Nat} {σ : jj_S} {η : jj_H} (h : x_rep X α τ σ η) : jj_Ht mX6_fittingPairs [.ref (X 0)] η 0 0 (fun v η' => v = some (.int (nI (s_fp σ (σ 12 3)))) ∧ η' = η) := by
  have h0 := h.2.2.1
  have hn : σ 12 3 ≤ 40 := h.1.1.2.2.2
  refine jj_lp tok_X6_fittingPairs zok_X6 py_6 rfl fun J run => ?_
  have inner : ∀ b, b < σ 12 3 → J η 0 0 4 [(0, .ref (X 0)), (1, .int (nI (s_fp σ (b + 1)))), (2, .int (nI (b + 1)))] [] → ∀ m a, a + m = b → J η 0 0 14 [(0, .ref (X 0)), (1, .int (nI (s_fpr σ b (s_fp σ b) a))), (2, .int (nI b)), (3, .int (nI a))] [] := by
    intro b hb hout m
    rw [← nI_add b 1] at hout
    induction m with
    | zero =>
      intro a ha
      refine run [(4, 3)] 20 ?_
      refine ⟨fun c1 => ?_, fun c1 => ?_⟩
      · rw [show a = b by omega]
        exact hout
      · rw [cb_ge, iN (by omega), iN (by omega)] at c1
        omega
    | succ m ih =>
      intro a ha
      have ih := ih (a + 1) (by omega)
      rw [← nI_add a 1] at ih
      refine run [(14, 4)] 40 ?_
      refine ⟨fun c1 => ?_, fun c1 => ⟨_, h0, 0, 0, _, c_joinSomewhere h a b (by omega) hb, Nat.le_refl _, Nat.le_refl _, fun v η' hv => ?_⟩⟩
      · rw [cb_ge, iN (by omega), iN (by omega)] at c1
        omega
      obtain ⟨rfl, rfl⟩ := hv
      refine ⟨fun c2 => ?_, fun c2 => ?_⟩
      · have c2 := b01_eq0 c2
        have e : s_fpr σ b (s_fp σ b) (a + 1) = s_fpr σ b (s_fp σ b) a := by
          conv => lhs; unfold s_fpr
          rw [c2]
          rfl
        rw [e] at ih
        exact ih
      · have c2 := b01_ne0 c2
        have e : s_fpr σ b (s_fp σ b) (a + 1) = s_fpr σ b (s_fp σ b) a + 1 := by
          conv => lhs; unfold s_fpr
          rw [c2]
          rfl
        rw [e, ← nI_add _ 1] at ih
        exact ih
  have fin : ∀ b, σ 12 3 ≤ b → b ≤ 41 → s_fp σ b = s_fp σ (σ 12 3) → J η 0 0 4 [(0, .ref (X 0)), (1, .int (nI (s_fp σ b))), (2, .int (nI b))] [] := by
    intro b hb hb2 e
    refine run [] 20 ?_
    refine ⟨_, h0, fun c1 => ?_, fun c1 => ?_⟩
    · rw [e]
      exact ⟨trivial, ⟨rfl, rfl⟩, Nat.zero_le _, Nat.zero_le _⟩
    · rw [cb_ge, iN (by omega), iN (by omega)] at c1
      omega
  have outer : ∀ m b, b + m = σ 12 3 → J η 0 0 4 [(0, .ref (X 0)), (1, .int (nI (s_fp σ b))), (2, .int (nI b))] [] := by
    intro m
    induction m with
    | zero =>
      intro b hb
      have hb : b = σ 12 3 := hb
      exact fin b (by omega) (by omega) (by rw [hb])
    | succ m ih =>
      intro b hb
      refine run [(14, 4)] 20 ?_
      refine ⟨_, h0, fun c1 => ?_, fun c1 => ?_⟩
      · rw [cb_ge, iN (by omega), iN (by omega)] at c1
        omega
      · exact inner b (by omega) (ih (b + 1) (by omega)) b 0 (by omega)
  refine run [(4, 3)] 20 ?_
  rcases Nat.eq_zero_or_pos (σ 12 3) with z | z
  · exact fin 1 (by omega) (by omega) (by rw [z]; rfl)
  · exact outer (σ 12 3 - 1) 1 (by omega)
