theorem f_forge_x1 {X : Nat → Nat} {α : Nat → Nat → Nat} {τ : Nat → Nat} {σ : jj_S} {η : jj_H} (h : x_rep X α τ σ η) (k d t : Int32) (hj : (jin k (σ 12 3) && jin d 4) = false) : jj_HX mX6_forge [.ref (X 0), .int k, .int d, .int t] η 1 6 (fun _ _ => False) (fun E => E = eI) := by
  have h0 := h.2.2.1
  refine jj_gx tok_X6_forge zok_X6 py_6 rfl 40 fun J => ?_
  cases hk : jin k (σ 12 3) with
  | false =>
    refine ⟨_, h0, 0, 0, _, c_stampN_none h k hk, Nat.zero_le _, Nat.zero_le _, fun v η' hv => ?_⟩
    obtain ⟨rfl, rfl⟩ := hv
    exact ⟨⟨rfl, rfl⟩, Nat.le_refl _, Nat.le_refl _⟩
  | true =>
    obtain ⟨k, rfl, hk2, -⟩ := jin_of hk
    refine ⟨_, h0, 0, 0, _, c_stampN_some h k hk2, Nat.zero_le _, Nat.zero_le _, fun v η' hv => ?_⟩
    obtain ⟨rfl, rfl⟩ := hv
    refine ⟨0, 0, _, c_isSide η' _, Nat.zero_le _, Nat.zero_le _, fun v η'' hv => ?_⟩
    obtain ⟨rfl, rfl⟩ := hv
    refine ⟨fun c1 => ?_, fun c1 => ⟨⟨rfl, rfl⟩, Nat.le_refl _, Nat.le_refl _⟩⟩
    have c1 := b01_ne0 c1
    rw [hk, c1] at hj
    cases hj
theorem f_forge_x2 {X : Nat → Nat} {α : Nat → Nat → Nat} {τ : Nat → Nat} {σ : jj_S} {η : jj_H} (h : x_rep X α τ σ η) (k d : Nat) (t : Int32) (hk : k < σ 12 3) (hd : d < 4) (ht : jin t (s_all σ k d + 1) = false) : jj_HX mX6_forge [.ref (X 0), .int (nI k), .int (nI d), .int t] η 1 6 (fun _ _ => False) (fun E => E = eA) := by
  have h0 := h.2.2.1
  obtain ⟨k1, ⟨f, k2, k3⟩, ⟨u, u1, u2⟩, k4⟩ := h.kk hk
  have hg := h.1.2.2.2.1 _ (h.1.k hk).1
  have ea := s_al_all σ k d
  have hu : s_al (σ 6 (8 * σ 7 k + 6)) (σ 6 (8 * σ 7 k + 7)) d ≤ 65535 := s_al_le (by omega) (by omega)
  have hj : jin (nI d) 4 = true := by rw [jin_nI (by omega)]; simp [hd]
  refine jj_gx tok_X6_forge zok_X6 py_6 rfl 80 fun J => ?_
  refine ⟨_, h0, 0, 0, _, c_stampN_some h k hk, Nat.zero_le _, Nat.zero_le _, fun v η' hv => ?_⟩
  obtain ⟨rfl, rfl⟩ := hv
  refine ⟨0, 0, _, c_isSide η' _, Nat.zero_le _, Nat.zero_le _, fun v η'' hv => ?_⟩
  obtain ⟨rfl, rfl⟩ := hv
  refine ⟨fun c1 => ⟨_, k1, _, u2, 0, 0, _, c_allTeeth η'' _ _ _ d _ _ _ _ _ _ _ u2 (by omega) (by omega) hd, Nat.zero_le _, Nat.zero_le _, fun v η' hv => ?_⟩, fun c1 => ?_⟩
  · obtain ⟨rfl, rfl⟩ := hv
    refine ⟨0, 0, _, c_isOutside η' _ _ _, Nat.zero_le _, Nat.zero_le _, fun v η'' hv => ?_⟩
    obtain ⟨rfl, rfl⟩ := hv
    refine ⟨fun c2 => ?_, fun c2 => ⟨⟨rfl, rfl⟩, Nat.le_refl _, Nat.le_refl _⟩⟩
    have c2 := b01_eq0 c2
    rw [i0, iN (by omega), ea] at c2
    simp [jin] at c2 ht
    omega
  · have c1 := b01_eq0 (Classical.not_not.mp c1)
    rw [hj] at c1
    cases c1
theorem f_forge_x3 {X : Nat → Nat} {α : Nat → Nat → Nat} {τ : Nat → Nat} {σ : jj_S} {η : jj_H} (h : x_rep X α τ σ η) (k d t : Nat) (hk : k < σ 12 3) (hd : d < 4) (ht : t ≤ s_all σ k d) (hm : σ 11 k ≠ 0) : jj_HX mX6_forge [.ref (X 0), .int (nI k), .int (nI d), .int (nI t)] η 1 6 (fun _ _ => False) (fun E => E = eS) := by
  have h0 := h.2.2.1
  obtain ⟨k1, ⟨f, k2, k3⟩, ⟨u, u1, u2⟩, k4⟩ := h.kk hk
  have hq : σ 11 k ≤ 64 := (h.1.k hk).2.2.2.2.2
  have hg := h.1.2.2.2.1 _ (h.1.k hk).1
  have ea := s_al_all σ k d
  have hu : s_al (σ 6 (8 * σ 7 k + 6)) (σ 6 (8 * σ 7 k + 7)) d ≤ 65535 := s_al_le (by omega) (by omega)
  have hj : jin (nI d) 4 = true := by rw [jin_nI (by omega)]; simp [hd]
  refine jj_gx tok_X6_forge zok_X6 py_6 rfl 80 fun J => ?_
  refine ⟨_, h0, 0, 0, _, c_stampN_some h k hk, Nat.zero_le _, Nat.zero_le _, fun v η' hv => ?_⟩
  obtain ⟨rfl, rfl⟩ := hv
  refine ⟨0, 0, _, c_isSide η' _, Nat.zero_le _, Nat.zero_le _, fun v η'' hv => ?_⟩
  obtain ⟨rfl, rfl⟩ := hv
  refine ⟨fun c1 => ⟨_, k1, _, u2, 0, 0, _, c_allTeeth η'' _ _ _ d _ _ _ _ _ _ _ u2 (by omega) (by omega) hd, Nat.zero_le _, Nat.zero_le _, fun v η' hv => ?_⟩, fun c1 => ?_⟩
  · obtain ⟨rfl, rfl⟩ := hv
    refine ⟨0, 0, _, c_isOutside η' _ _ _, Nat.zero_le _, Nat.zero_le _, fun v η'' hv => ?_⟩
    obtain ⟨rfl, rfl⟩ := hv
    refine ⟨fun c2 => ⟨_, k1, 0, 0, _, c_isMounted η'' _ _ _ _ _ _ _ _ _ k1 hq, Nat.zero_le _, Nat.zero_le _, fun v η' hv => ?_⟩, fun c2 => ?_⟩
    · obtain ⟨rfl, rfl⟩ := hv
      refine ⟨fun c3 => ?_, fun c3 => ⟨⟨rfl, rfl⟩, Nat.le_refl _, Nat.le_refl _⟩⟩
      have c3 := b01_eq0 c3
      simp at c3
      exact absurd c3 hm
    · have c2 := b01_ne0 c2
      rw [i0, iN (by omega), iN (by omega)] at c2
      simp at c2
      omega
  · have c1 := b01_eq0 (Classical.not_not.mp c1)
    rw [hj] at c1
    cases c1
