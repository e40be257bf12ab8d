/-! THE FACE: SETTING A SHEET -/
def s_set (σ : jj_S) (s r c a d : Nat) : jj_S := s_up (s_up (s_up (s_up σ 6 (8 * s + 4) r) 6 (8 * s + 5) c) 6 (8 * s + 6) a) 6 (8 * s + 7) d
theorem s_set_n (σ : jj_S) (s r c a d : Nat) {j : Nat} (h : j < 8 * s + 4 ∨ 8 * s + 8 ≤ j) : s_set σ s r c a d 6 j = σ 6 j := by
  unfold s_set
  rw [s_up_n _ _ _ (by omega), s_up_n _ _ _ (by omega), s_up_n _ _ _ (by omega), s_up_n _ _ _ (by omega)]
theorem s_set_4 (σ : jj_S) (s r c a d : Nat) : s_set σ s r c a d 6 (8 * s + 4) = r := by
  unfold s_set
  rw [s_up_n _ _ _ (by omega), s_up_n _ _ _ (by omega), s_up_n _ _ _ (by omega), s_up_s]
theorem s_set_5 (σ : jj_S) (s r c a d : Nat) : s_set σ s r c a d 6 (8 * s + 5) = c := by
  unfold s_set
  rw [s_up_n _ _ _ (by omega), s_up_n _ _ _ (by omega), s_up_s]
theorem s_set_6 (σ : jj_S) (s r c a d : Nat) : s_set σ s r c a d 6 (8 * s + 6) = a := by
  unfold s_set
  rw [s_up_n _ _ _ (by omega), s_up_s]
theorem s_set_7 (σ : jj_S) (s r c a d : Nat) : s_set σ s r c a d 6 (8 * s + 7) = d := by
  unfold s_set
  rw [s_up_s]
theorem s_set_pl (σ : jj_S) (s r c a d k : Nat) : s_pl (s_set σ s r c a d) k = s_pl σ k := s_set_n σ s r c a d (j := 8 * σ 7 k) (by omega)
theorem s_set_pa (σ : jj_S) (s r c a d k : Nat) : s_pa (s_set σ s r c a d) k = s_pa σ k := s_set_n σ s r c a d (j := 8 * σ 7 k + 1) (by omega)
theorem s_set_mr (σ : jj_S) (s r c a d k : Nat) (h : σ 7 k ≠ s) : s_mr (s_set σ s r c a d) k = s_mr σ k := by
  unfold s_mr
  rw [s_set_pa]
  show (σ 8 k + s_set σ s r c a d 6 (8 * σ 7 k + 4)) % σ 5 (s_pa σ k) = _
  rw [s_set_n σ s r c a d (by omega)]
theorem s_set_mc (σ : jj_S) (s r c a d k : Nat) (h : σ 7 k ≠ s) : s_mc (s_set σ s r c a d) k = s_mc σ k := by
  unfold s_mc
  rw [s_set_pa]
  show (σ 9 k + s_set σ s r c a d 6 (8 * σ 7 k + 5)) % σ 4 (s_pa σ k) = _
  rw [s_set_n σ s r c a d (by omega)]
theorem s_set_all (σ : jj_S) (s r c a d k e : Nat) (h : σ 7 k ≠ s) : s_all (s_set σ s r c a d) k e = s_all σ k e := by
  unfold s_all s_g
  show 2 ^ s_set σ s r c a d 6 (8 * σ 7 k + (6 + e % 2)) - 1 = _
  rw [s_set_n σ s r c a d (by omega)]
theorem x_rep.set {X : Nat → Nat} {α : Nat → Nat → Nat} {τ : Nat → Nat} {σ : jj_S} {η η' : jj_H} (h : x_rep X α τ σ η) {s r c a d t : Nat} (hs0 : s < σ 12 2) (hno : ∀ k, k < σ 12 3 → σ 7 k ≠ s) (hr : r ≤ 3) (hc : c ≤ 3) (ha : 5 ≤ a ∧ a ≤ 16) (hd : 5 ≤ d ∧ d ≤ 16)
    (g1 : ∀ b, b ≠ α 5 s → η' b = η b) (g2 : η (α 5 s) = some (x_o 4 [.ref (α 0 (σ 6 (8 * s))), .ref (α 4 (σ 6 (8 * s + 1))), .int (nI (σ 6 (8 * s + 2))), .int (nI (σ 6 (8 * s + 3))), .int (nI (σ 6 (8 * s + 4))), .int (nI (σ 6 (8 * s + 5))), .int (nI (σ 6 (8 * s + 6))), .int (nI (σ 6 (8 * s + 7))), .long (lN t)]))
    (g3 : η' (α 5 s) = some (x_o 4 [.ref (α 0 (σ 6 (8 * s))), .ref (α 4 (σ 6 (8 * s + 1))), .int (nI (σ 6 (8 * s + 2))), .int (nI (σ 6 (8 * s + 3))), .int (nI r), .int (nI c), .int (nI a), .int (nI d), .long (lN t)])) (ht : t < 2 ^ 64) : x_rep X α τ (s_set σ s r c a d) η' := by
  obtain ⟨ok, tag, h0, h1, h2, h3, h4, ⟨a1, a2⟩, h6, hp, hw, hs, hst⟩ := h
  obtain ⟨p1, p2, p3⟩ := x_tag.ap ok tag
  have lk : s_live σ 5 s := hs0
  have aX : ∀ j, j < 8 → η' (X j) = η (X j) := fun j hj => g1 _ (p2 j 5 s hj lk)
  have aα : ∀ f i, s_live σ f i → f ≠ 5 ∨ i ≠ s → η' (α f i) = η (α f i) := fun f i hl hn => g1 _ (p3 f i 5 s hl lk hn)
  refine ⟨?_, tag, (aX 0 (by decide)).trans h0, ?_, ?_, ?_, ?_, ⟨(aX 5 (by decide)).trans a1, ?_⟩, ?_, fun p hp2 => ?_, fun w hw2 => (aα 4 w hw2 (Or.inl (by decide))).trans (hw w hw2), fun s' hs2 => ?_, fun j hj => ?_⟩
  · obtain ⟨o1, o2, o3, o4, o5, o6, o7⟩ := ok
    refine ⟨o1, o2, o3, fun s' hs' => ?_, fun j hj => ?_, o6, o7⟩
    · obtain ⟨b0, b1, b2, b3, b4, b5, b6, b7⟩ := o4 s' hs'
      rw [s_set_n σ s r c a d (j := 8 * s') (by omega), s_set_n σ s r c a d (j := 8 * s' + 1) (by omega), s_set_n σ s r c a d (j := 8 * s' + 2) (by omega), s_set_n σ s r c a d (j := 8 * s' + 3) (by omega)]
      by_cases z : s' = s
      · subst z
        rw [s_set_4, s_set_5, s_set_6, s_set_7]
        exact ⟨b0, b1, b2, b3, hr, hc, ha, hd⟩
      · rw [s_set_n σ s r c a d (j := 8 * s' + 4) (by omega), s_set_n σ s r c a d (j := 8 * s' + 5) (by omega), s_set_n σ s r c a d (j := 8 * s' + 6) (by omega), s_set_n σ s r c a d (j := 8 * s' + 7) (by omega)]
        exact ⟨b0, b1, b2, b3, b4, b5, b6, b7⟩
    · obtain ⟨b1, b2, b3, b4, b5⟩ := o5 j hj
      rw [s_set_pl]
      refine ⟨b1, b2, b3, b4, fun e he => ?_⟩
      rw [s_set_all _ _ _ _ _ _ _ _ (hno j hj)]
      exact b5 e he
  · rw [aX 1 (by decide)]
    exact h1
  · rw [aX 2 (by decide)]
    exact h2
  · rw [aX 3 (by decide)]
    exact h3
  · rw [aX 4 (by decide)]
    exact h4
  · rw [aX 7 (by decide)]
    exact a2
  · rw [aX 6 (by decide)]
    exact h6
  · have e := x_plate.c (σ := σ) (σ' := s_set σ s r c a d) rfl rfl rfl rfl (hp p hp2)
    obtain ⟨q1, q2, q3, q4⟩ := e
    have hf := (ok.2.1 p hp2).1.2.2.2.2
    refine ⟨(aα 0 p hp2 (Or.inl (by decide))).trans q1, ?_, ?_, fun j hj => (aα 3 (10 * p + j) ?_ (Or.inl (by decide))).trans (q4 j hj)⟩
    · rw [aα 1 p hp2 (Or.inl (by decide))]
      exact q2
    · rw [aα 2 p hp2 (Or.inl (by decide))]
      exact q3
    · have hj : j < σ 2 p := hj
      have e1 : (10 * p + j) / 10 = p := by omega
      have e2 : (10 * p + j) % 10 = j := by omega
      show (10 * p + j) / 10 < σ 12 0 ∧ (10 * p + j) % 10 < σ 2 ((10 * p + j) / 10)
      rw [e1, e2]
      exact ⟨hp2, hj⟩
  · obtain ⟨t', t1, t2, t3⟩ := hs s' hs2
    refine ⟨t', t1, ?_, t3⟩
    rw [s_set_n σ s r c a d (j := 8 * s') (by omega), s_set_n σ s r c a d (j := 8 * s' + 1) (by omega), s_set_n σ s r c a d (j := 8 * s' + 2) (by omega), s_set_n σ s r c a d (j := 8 * s' + 3) (by omega)]
    by_cases z : s' = s
    · subst z
      rw [s_set_4, s_set_5, s_set_6, s_set_7, g3]
      rw [g2] at t2
      injection t2 with t2
      injection t2 with t2
      injection t2 with _ t2
      simp only [List.cons.injEq, and_true, true_and] at t2
      rw [t2]
    · rw [s_set_n σ s r c a d (j := 8 * s' + 4) (by omega), s_set_n σ s r c a d (j := 8 * s' + 5) (by omega), s_set_n σ s r c a d (j := 8 * s' + 6) (by omega), s_set_n σ s r c a d (j := 8 * s' + 7) (by omega)]
      exact (aα 5 s' hs2 (Or.inr z)).trans t2
  · obtain ⟨k1, k2⟩ := hst j hj
    have n7 : η' (α 7 j) = η (α 7 j) := aα 7 j hj (Or.inl (by decide))
    refine ⟨?_, by rw [n7]; exact k2⟩
    rw [s_set_mr _ _ _ _ _ _ _ (hno j hj), s_set_mc _ _ _ _ _ _ _ (hno j hj)]
    exact (aα 6 j hj (Or.inl (by decide))).trans k1
