/-! WHAT STANDS STAYS WHEN MORE IS MADE -/
theorem s_fln_k {σ σ' : jj_S} {p n : Nat} (h3 : ∀ j e, j < n → e < 5 → σ' 3 (5 * (10 * p + j) + e) = σ 3 (5 * (10 * p + j) + e)) (q r : Nat) : ∀ m, m ≤ n → s_fln σ' p q r m = s_fln σ p q r m
  | 0, _ => rfl
  | m + 1, hm => by
    have e0 := h3 m 0 (by omega) (by omega)
    have e1 := h3 m 1 (by omega) (by omega)
    have e2 := h3 m 2 (by omega) (by omega)
    have e3 := h3 m 3 (by omega) (by omega)
    have e4 := h3 m 4 (by omega) (by omega)
    rw [Nat.add_zero] at e0
    have e : s_fl1 σ' p q r m = s_fl1 σ p q r m := by
      unfold s_fl1
      rw [e0, e1, e3, e4]
    unfold s_fln
    rw [s_fln_k h3 q r m (by omega), e, e2]
theorem s_fl_k {σ σ' : jj_S} {p : Nat} (h2 : σ' 2 p = σ 2 p) (h3 : ∀ j e, j < σ 2 p → e < 5 → σ' 3 (5 * (10 * p + j) + e) = σ 3 (5 * (10 * p + j) + e)) (q r : Nat) : s_fl σ' p q r = s_fl σ p q r := by
  unfold s_fl
  rw [h2]
  exact s_fln_k h3 q r _ (Nat.le_refl _)
theorem x_plate.k {α α' : Nat → Nat → Nat} {σ σ' : jj_S} {η η' : jj_H} {p : Nat} (h0 : σ' 0 p = σ 0 p) (h1 : σ' 1 p = σ 1 p) (h2 : σ' 2 p = σ 2 p) (h3 : ∀ j e, j < σ 2 p → e < 5 → σ' 3 (5 * (10 * p + j) + e) = σ 3 (5 * (10 * p + j) + e)) (hf : σ 2 p ≤ 10)
    (a0 : α' 0 p = α 0 p) (a1 : α' 1 p = α 1 p) (a2 : α' 2 p = α 2 p) (a3 : ∀ j, j < σ 2 p → α' 3 (10 * p + j) = α 3 (10 * p + j))
    (b0 : η' (α 0 p) = η (α 0 p)) (b1 : η' (α 1 p) = η (α 1 p)) (b2 : η' (α 2 p) = η (α 2 p)) (b3 : ∀ j, j < σ 2 p → η' (α 3 (10 * p + j)) = η (α 3 (10 * p + j))) (h : x_plate α σ η p) : x_plate α' σ' η' p := by
  obtain ⟨a, ⟨g, g1, g2⟩, ⟨f, c1, c2⟩, d⟩ := h
  refine ⟨?_, ⟨g, by rw [a1, b1]; exact g1, fun j hj => ?_⟩, ⟨f, by rw [a2, b2]; exact c1, fun q hq s hs => ?_⟩, fun j hj => ?_⟩
  · rw [a0, a1, a2, b0, h0, h1, h2]
    exact a
  · rw [g2 j hj, h2]
    by_cases z : j < σ 2 p
    · rw [if_pos z, if_pos z, a3 j z]
    · rw [if_neg z, if_neg z]
  · rw [c2 q hq s hs]
    unfold s_shown
    simp only [s_fl_k h2 h3]
  · have hj : j < σ 2 p := by rw [← h2]; exact hj
    have e0 := h3 j 0 hj (by omega)
    have e1 := h3 j 1 hj (by omega)
    have e2 := h3 j 2 hj (by omega)
    have e3 := h3 j 3 hj (by omega)
    have e4 := h3 j 4 hj (by omega)
    rw [Nat.add_zero] at e0
    rw [a3 j hj, b3 j hj, e0, e1, e2, e3, e4]
    exact d j hj
theorem x_stamp.k {α α' : Nat → Nat → Nat} {σ σ' : jj_S} {η η' : jj_H} {k : Nat} (h7 : σ' 7 k = σ 7 k) (h8 : σ' 8 k = σ 8 k) (h9 : σ' 9 k = σ 9 k) (hr : s_mr σ' k = s_mr σ k) (hc : s_mc σ' k = s_mc σ k) (h10 : ∀ d, d < 4 → σ' 10 (4 * k + d) = σ 10 (4 * k + d)) (h11 : σ' 11 k = σ 11 k)
    (a5 : α' 5 (σ 7 k) = α 5 (σ 7 k)) (a6 : α' 6 k = α 6 k) (a7 : α' 7 k = α 7 k) (b6 : η' (α 6 k) = η (α 6 k)) (b7 : η' (α 7 k) = η (α 7 k)) (h : x_stamp α σ η k) : x_stamp α' σ' η' k := by
  obtain ⟨a, f, f1, f2⟩ := h
  refine ⟨?_, f, ?_, fun d hd => ?_⟩
  · rw [h7, h8, h9, hr, hc, h11, a5, a6, a7, b6]
    exact a
  · rw [a7, b7]
    exact f1
  · rw [h10 d hd]
    exact f2 d hd
theorem x_sheet.k {α α' : Nat → Nat → Nat} {σ σ' : jj_S} {η η' : jj_H} {s : Nat} (h6 : ∀ j, j < 8 → σ' 6 (8 * s + j) = σ 6 (8 * s + j)) (hn : σ' 12 3 = σ 12 3) (h7 : ∀ k, k < σ 12 3 → σ' 7 k = σ 7 k ∧ σ' 8 k = σ 8 k ∧ σ' 9 k = σ 9 k)
    (a0 : α' 0 (σ 6 (8 * s)) = α 0 (σ 6 (8 * s))) (a4 : α' 4 (σ 6 (8 * s + 1)) = α 4 (σ 6 (8 * s + 1))) (a5 : α' 5 s = α 5 s) (b5 : η' (α 5 s) = η (α 5 s)) (h : x_sheet α σ η s) : x_sheet α' σ' η' s := by
  obtain ⟨t, t1, t2, t3, t4⟩ := h
  have e0 := h6 0 (by omega)
  rw [Nat.add_zero] at e0
  refine ⟨t, t1, ?_, fun r c hr hc => ?_, ?_⟩
  · rw [e0, h6 1 (by omega), h6 2 (by omega), h6 3 (by omega), h6 4 (by omega), h6 5 (by omega), h6 6 (by omega), h6 7 (by omega), a0, a4, a5, b5]
    exact t2
  · rw [t3 r c hr hc, hn]
    constructor
    · rintro ⟨k, k1, k2, k3, k4⟩
      obtain ⟨q1, q2, q3⟩ := h7 k k1
      exact ⟨k, k1, by rw [q1]; exact k2, by rw [q2]; exact k3, by rw [q3]; exact k4⟩
    · rintro ⟨k, k1, k2, k3, k4⟩
      obtain ⟨q1, q2, q3⟩ := h7 k k1
      exact ⟨k, k1, by rw [← q1]; exact k2, by rw [← q2]; exact k3, by rw [← q3]; exact k4⟩
  · rw [t4, hn]
    constructor
    · intro g k k1
      rw [(h7 k k1).1]
      exact g k k1
    · intro g k k1
      have := g k k1
      rw [(h7 k k1).1] at this
      exact this
