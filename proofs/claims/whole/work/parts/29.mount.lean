/-! ONE NUMBER MADE ANOTHER -/
def s_up (σ : jj_S) (f i v : Nat) : jj_S := fun g j => bif Nat.beq g f && Nat.beq j i then v else σ g j
theorem s_up_s (σ : jj_S) (f i v : Nat) : s_up σ f i v f i = v := by
  unfold s_up
  rw [Nat.beq_refl, Nat.beq_refl]
  rfl
theorem s_up_n (σ : jj_S) (f v : Nat) {i j : Nat} (h : j ≠ i) : s_up σ f i v f j = σ f j := by
  unfold s_up
  have e : Nat.beq j i = false := by
    cases hb : Nat.beq j i with
    | false => rfl
    | true => exact absurd (Nat.eq_of_beq_eq_true hb) h
  rw [e, Bool.and_false]
  rfl
theorem s_fln_c {σ σ' : jj_S} (h3 : σ' 3 = σ 3) (p q r : Nat) : ∀ n, s_fln σ' p q r n = s_fln σ p q r n
  | 0 => rfl
  | n + 1 => by
    have e : s_fl1 σ' p q r n = s_fl1 σ p q r n := by
      unfold s_fl1
      rw [h3]
    unfold s_fln
    rw [s_fln_c h3 p q r n, e, h3]
theorem s_shown_c {σ σ' : jj_S} (h2 : σ' 2 = σ 2) (h3 : σ' 3 = σ 3) (p q s : Nat) : s_shown σ' p q s = s_shown σ p q s := by
  unfold s_shown s_fl
  rw [h2]
  simp only [s_fln_c h3]
theorem x_plate.c {α : Nat → Nat → Nat} {σ σ' : jj_S} {η : jj_H} {p : Nat} (h0 : σ' 0 = σ 0) (h1 : σ' 1 = σ 1) (h2 : σ' 2 = σ 2) (h3 : σ' 3 = σ 3) (h : x_plate α σ η p) : x_plate α σ' η p := by
  obtain ⟨a, b, ⟨f, c1, c2⟩, d⟩ := h
  refine ⟨?_, ?_, ⟨f, c1, fun q hq s hs => ?_⟩, ?_⟩
  · rw [h0, h1, h2]
    exact a
  · rw [h2]
    exact b
  · rw [s_shown_c h2 h3]
    exact c2 q hq s hs
  · rw [h2, h3]
    exact d
theorem s_live_lt {σ : jj_S} (h : s_ok σ) {f i : Nat} (hl : s_live σ f i) : i < 1000 := by
  obtain ⟨⟨a, b, c, d⟩, -⟩ := h
  unfold s_live at hl
  split at hl <;> first | omega | exact hl.elim
/-- things that stand apart -/
theorem x_tag.ap {X : Nat → Nat} {α : Nat → Nat → Nat} {τ : Nat → Nat} {σ : jj_S} (ok : s_ok σ) (t : x_tag X α τ σ) :
    (∀ i j, i < 8 → j < 8 → i ≠ j → X i ≠ X j) ∧ (∀ j f i, j < 8 → s_live σ f i → X j ≠ α f i) ∧ ∀ f i g j, s_live σ f i → s_live σ g j → (f ≠ g ∨ i ≠ j) → α f i ≠ α g j := by
  obtain ⟨t1, t2⟩ := t
  refine ⟨fun i j hi hj hn e => ?_, fun j f i hj hl e => ?_, fun f i g j hl hl2 hn e => ?_⟩
  · have a := t1 i hi
    have b := t1 j hj
    rw [e] at a
    omega
  · have a := t1 j hj
    have b := t2 f i hl
    rw [e] at a
    omega
  · have a := t2 f i hl
    have b := t2 g j hl2
    have c := s_live_lt ok hl
    have d := s_live_lt ok hl2
    rw [e] at a
    omega
theorem x_rep.mnt {X : Nat → Nat} {α : Nat → Nat → Nat} {τ : Nat → Nat} {σ : jj_S} {η η' : jj_H} (h : x_rep X α τ σ η) {k v : Nat} (hk : k < σ 12 3) (hv : v ≤ 64) (hu : v ≠ 0 → ∀ j, j < σ 12 3 → j ≠ k → σ 11 j ≠ v)
    (g1 : ∀ b, b ≠ X 7 → b ≠ α 6 k → η' b = η b) (g2 : η' (α 6 k) = some (x_o 5 [.int (nI k), .ref (α 5 (σ 7 k)), .int (nI (σ 8 k)), .int (nI (σ 9 k)), .int (nI (s_mr σ k)), .int (nI (s_mc σ k)), .ref (α 7 k), .int (mI v)]))
    (g3 : ∃ f, η' (X 7) = some (x_r 6 64 f) ∧ ∀ q, q < 64 → (∀ j, j < σ 12 3 → s_up σ 11 k v 11 j = q + 1 → f q = some (α 6 j)) ∧ ((∀ j, j < σ 12 3 → s_up σ 11 k v 11 j ≠ q + 1) → f q = none)) : x_rep X α τ (s_up σ 11 k v) η' := by
  obtain ⟨ok, tag, h0, h1, h2, h3, h4, ⟨a1, a2⟩, h6, hp, hw, hs, hst⟩ := h
  obtain ⟨p1, p2, p3⟩ := x_tag.ap ok tag
  have lk : s_live σ 6 k := hk
  have aX : ∀ j, j < 8 → j ≠ 7 → η' (X j) = η (X j) := fun j hj h7 => g1 _ (p1 j 7 hj (by decide) h7) (p2 j 6 k hj lk)
  have aα : ∀ f i, s_live σ f i → f ≠ 6 ∨ i ≠ k → η' (α f i) = η (α f i) := fun f i hl hn => g1 _ (Ne.symm (p2 7 f i (by decide) hl)) (p3 f i 6 k hl lk hn)
  refine ⟨?_, tag, (aX 0 (by decide) (by decide)).trans h0, ?_, ?_, ?_, ?_, ⟨(aX 5 (by decide) (by decide)).trans a1, g3⟩, ?_, fun p hp2 => ?_, fun w hw2 => (aα 4 w hw2 (Or.inl (by decide))).trans (hw w hw2), fun s hs2 => ?_, fun j hj => ?_⟩
  · obtain ⟨o1, o2, o3, o4, o5, o6, o7⟩ := ok
    refine ⟨o1, o2, o3, o4, fun j hj => ?_, fun i j hi hj e ne => ?_, o7⟩
    · obtain ⟨b1, b2, b3, b4, b5⟩ := o5 j hj
      refine ⟨b1, b2, b3, ?_, b5⟩
      by_cases z : j = k
      · rw [z, s_up_s]
        exact hv
      · rw [s_up_n _ _ _ z]
        exact b4
    · by_cases z1 : i = k
      · by_cases z2 : j = k
        · rw [z1, z2]
        · rw [z1, s_up_s] at ne
          rw [z1, s_up_s, s_up_n _ _ _ z2] at e
          exact absurd e.symm (hu ne j hj z2)
      · by_cases z2 : j = k
        · rw [s_up_n _ _ _ z1] at ne
          rw [z2, s_up_s, s_up_n _ _ _ z1] at e
          exact absurd e (hu (by rw [← e]; exact ne) i hi z1)
        · rw [s_up_n _ _ _ z1] at ne
          rw [s_up_n _ _ _ z1, s_up_n _ _ _ z2] at e
          exact o6 i j hi hj e ne
  · rw [aX 1 (by decide) (by decide)]
    exact h1
  · rw [aX 2 (by decide) (by decide)]
    exact h2
  · rw [aX 3 (by decide) (by decide)]
    exact h3
  · rw [aX 4 (by decide) (by decide)]
    exact h4
  · rw [aX 6 (by decide) (by decide)]
    exact h6
  · have e := x_plate.c (σ := σ) (σ' := s_up σ 11 k v) rfl rfl rfl rfl (hp p hp2)
    obtain ⟨q1, q2, q3, q4⟩ := e
    have hf := (ok.2.1 p hp2).1.2.2.2.2
    refine ⟨(aα 0 p hp2 (Or.inl (by decide))).trans q1, ?_, ?_, fun j hj => (aα 3 (10 * p + j) ?_ (Or.inl (by decide))).trans (q4 j hj)⟩
    · rw [aα 1 p hp2 (Or.inl (by decide))]
      exact q2
    · rw [aα 2 p hp2 (Or.inl (by decide))]
      exact q3
    · have hj : j < σ 2 p := hj
      have e1 : (10 * p + j) / 10 = p := by omega
      have e2 : (10 * p + j) % 10 = j := by omega
      show (10 * p + j) / 10 < σ 12 0 ∧ (10 * p + j) % 10 < σ 2 ((10 * p + j) / 10)
      rw [e1, e2]
      exact ⟨hp2, hj⟩
  · obtain ⟨t, t1, t2, t3⟩ := hs s hs2
    exact ⟨t, t1, (aα 5 s hs2 (Or.inl (by decide))).trans t2, t3⟩
  · obtain ⟨k1, k2⟩ := hst j hj
    have n7 : η' (α 7 j) = η (α 7 j) := aα 7 j hj (Or.inl (by decide))
    refine ⟨?_, by rw [n7]; exact k2⟩
    by_cases z : j = k
    · subst z
      rw [s_up_s]
      exact g2
    · rw [s_up_n _ _ _ z]
      exact (aα 6 j hj (Or.inr z)).trans k1
