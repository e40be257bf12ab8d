theorem s_pap4 (σ : jj_S) (w k : Nat) {i : Nat} (h : i ≠ σ 12 1) : s_pap σ w k 4 i = σ 4 i := s_up_n σ 4 w h
theorem s_pap5 (σ : jj_S) (w k : Nat) {i : Nat} (h : i ≠ σ 12 1) : s_pap σ w k 5 i = σ 5 i := s_up_n (s_up σ 4 (σ 12 1) w) 5 k h
theorem s_pap4s (σ : jj_S) (w k : Nat) : s_pap σ w k 4 (σ 12 1) = w := s_up_s σ 4 (σ 12 1) w
theorem s_pap5s (σ : jj_S) (w k : Nat) : s_pap σ w k 5 (σ 12 1) = k := s_up_s (s_up σ 4 (σ 12 1) w) 5 (σ 12 1) k
theorem s_pap12 (σ : jj_S) (w k : Nat) : s_pap σ w k 12 1 = σ 12 1 + 1 := s_up_s _ 12 1 _
theorem x_rep.pap {X : Nat → Nat} {α : Nat → Nat → Nat} {τ : Nat → Nat} {σ : jj_S} {η η' : jj_H} (h : x_rep X α τ σ η) {w k q : Nat} (hn : σ 12 1 < 4) (hw : 1 ≤ w ∧ w ≤ 4) (hk : 1 ≤ k ∧ k ≤ 4) (hq : η q = none)
    (g0 : η' (X 0) = some (x_o 6 [.ref (X 1), .ref (X 2), .ref (X 3), .ref (X 4), .ref (X 5), .ref (X 6), .int (nI (σ 12 0)), .int (nI (σ 12 1 + 1)), .int (nI (σ 12 2)), .int (nI (σ 12 3))]))
    (g2 : ∃ f, η' (X 2) = some (x_r 4 4 f) ∧ ∀ i, i < 4 → f i = if i < σ 12 1 + 1 then some (a_new α 4 (σ 12 1) q 4 i) else none)
    (g3 : η' q = some (x_o 2 [.int (nI (σ 12 1)), .int (nI w), .int (nI k)]))
    (g1 : ∀ b, b ≠ X 0 → b ≠ X 2 → b ≠ q → η' b = η b) : x_rep X (a_new α 4 (σ 12 1) q) (t_new τ q (5000 + σ 12 1)) (s_pap σ w k) η' := by
  obtain ⟨s1, s2⟩ := h.stands
  obtain ⟨ok, tag, h0, h1, h2, h3, h4, ⟨a1, a2⟩, h6, hp, hpw, hs, hst⟩ := h
  obtain ⟨p1, p2, p3⟩ := x_tag.ap ok tag
  have qX : ∀ j, j < 8 → X j ≠ q := fun j hj z => s1 j hj (by rw [z]; exact hq)
  have qα : ∀ f i, s_live σ f i → α f i ≠ q := fun f i hl z => s2 f i hl (by rw [z]; exact hq)
  have aX : ∀ j, j < 8 → j ≠ 0 → j ≠ 2 → η' (X j) = η (X j) := fun j hj z z2 => g1 _ (p1 j 0 hj (by decide) z) (p1 j 2 hj (by decide) z2) (qX j hj)
  have aα : ∀ f i, s_live σ f i → η' (α f i) = η (α f i) := fun f i hl => g1 _ (Ne.symm (p2 0 f i (by decide) hl)) (Ne.symm (p2 2 f i (by decide) hl)) (qα f i hl)
  have nα : ∀ f i, s_live σ f i → a_new α 4 (σ 12 1) q f i = α f i := fun f i hl => a_new_n α _ _ _ (by
    by_cases z : f = 4
    · subst z
      have hl : i < σ 12 1 := hl
      exact Or.inr (by omega)
    · exact Or.inl z)
  have o5 := ok.2.2.2.2.1
  have o4 := ok.2.2.2.1
  refine ⟨?_, ⟨fun j hj => ?_, fun f i hl => ?_⟩, ?_, ?_, ?_, ?_, ?_, ⟨(aX 5 (by decide) (by decide) (by decide)).trans a1, ?_⟩, ?_, fun p hp2 => ?_, fun i hi => ?_, fun s hs2 => ?_, fun j hj => ?_⟩
  · obtain ⟨⟨c1, c2, c3, c4⟩, o2, o3, o4, o5, o6, o7⟩ := ok
    refine ⟨⟨c1, by rw [s_pap12]; omega, c3, c4⟩, o2, fun i hi => ?_, fun s hs' => ?_, o5, o6, o7⟩
    · rw [s_pap12] at hi
      by_cases z : i = σ 12 1
      · rw [z, s_pap4s, s_pap5s]
        omega
      · rw [s_pap4 σ w k z, s_pap5 σ w k z]
        exact o3 i (by omega)
    · obtain ⟨b1, b2, b3⟩ := o4 s hs'
      exact ⟨b1, by rw [s_pap12]; exact Nat.lt_succ_of_lt b2, b3⟩
  · unfold t_new
    rw [if_neg (qX j hj)]
    exact tag.1 j hj
  · by_cases z : f = 4 ∧ i = σ 12 1
    · obtain ⟨rfl, rfl⟩ := z
      rw [a_new_s]
      unfold t_new
      rw [if_pos rfl]
    · have hl2 : s_live σ f i := by
        by_cases y : f = 4
        · subst y
          have hl : i < s_pap σ w k 12 1 := hl
          rw [s_pap12] at hl
          show i < σ 12 1
          have : i ≠ σ 12 1 := fun e => z ⟨rfl, e⟩
          omega
        · unfold s_live at hl ⊢
          split at hl <;> first | exact absurd rfl y | exact hl
      rw [nα f i hl2]
      unfold t_new
      rw [if_neg (qα f i hl2)]
      exact tag.2 f i hl2
  · rw [s_pap12]
    exact g0
  · obtain ⟨f, f1, f2⟩ := h1
    refine ⟨f, (aX 1 (by decide) (by decide) (by decide)).trans f1, fun i hi => (f2 i hi).trans ?_⟩
    by_cases z : i < σ 12 0
    · rw [if_pos z]
      exact (if_pos z).symm
    · rw [if_neg z]
      exact (if_neg z).symm
  · rw [s_pap12]
    exact g2
  · rw [aX 3 (by decide) (by decide) (by decide)]
    exact h3
  · rw [aX 4 (by decide) (by decide) (by decide)]
    exact h4
  · rw [aX 7 (by decide) (by decide) (by decide)]
    exact a2
  · rw [aX 6 (by decide) (by decide) (by decide)]
    exact h6
  · have hf := (ok.2.1 p hp2).1.2.2.2.2
    have l3 : ∀ j, j < σ 2 p → s_live σ 3 (10 * p + j) := fun j hj => by
      have e1 : (10 * p + j) / 10 = p := by omega
      have e2 : (10 * p + j) % 10 = j := by omega
      show (10 * p + j) / 10 < σ 12 0 ∧ (10 * p + j) % 10 < σ 2 ((10 * p + j) / 10)
      rw [e1, e2]
      exact ⟨hp2, hj⟩
    exact x_plate.k (σ := σ) rfl rfl rfl (fun _ _ _ _ => rfl) hf (nα 0 p hp2) (nα 1 p hp2) (nα 2 p hp2) (fun j hj => nα 3 _ (l3 j hj)) (aα 0 p hp2) (aα 1 p hp2) (aα 2 p hp2) (fun j hj => aα 3 _ (l3 j hj)) (hp p hp2)
  · rw [s_pap12] at hi
    by_cases z : i = σ 12 1
    · rw [z, a_new_s, s_pap4s, s_pap5s]
      exact g3
    · have hi2 : i < σ 12 1 := by omega
      rw [s_pap4 σ w k z, s_pap5 σ w k z, nα 4 i hi2, aα 4 i hi2]
      exact hpw i hi2
  · have b := o4 s hs2
    exact x_sheet.k (σ := σ) (fun _ _ => rfl) rfl (fun _ _ => ⟨rfl, rfl, rfl⟩) (nα 0 _ b.1) (nα 4 _ b.2.1) (nα 5 s hs2) (aα 5 s hs2) (hs s hs2)
  · have b := o5 j hj
    have c := (o4 _ b.1).2.1
    have n4 : s_pa σ j ≠ σ 12 1 := by
      have c : s_pa σ j < σ 12 1 := c
      omega
    exact x_stamp.k (σ := σ) rfl rfl rfl (congrArg ((σ 8 j + σ 6 (8 * σ 7 j + 4)) % ·) (s_pap5 σ w k n4)) (congrArg ((σ 9 j + σ 6 (8 * σ 7 j + 5)) % ·) (s_pap4 σ w k n4)) (fun _ _ => rfl) rfl (nα 5 _ b.1) (nα 6 j hj) (nα 7 j hj) (aα 6 j hj) (aα 7 j hj) (hst j hj)
