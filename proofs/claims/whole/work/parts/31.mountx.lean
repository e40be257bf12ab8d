theorem f_mount_x1 {X : Nat → Nat} {α : Nat → Nat → Nat} {τ : Nat → Nat} {σ : jj_S} {η : jj_H} (h : x_rep X α τ σ η) (k r c : Int32) (hk : jin k (σ 12 3) = false) : jj_HX mX6_mount [.ref (X 0), .int k, .int r, .int c] η 1 6 (fun _ _ => False) (fun E => E = eI) := by
  have h0 := h.2.2.1
  refine jj_gx tok_X6_mount zok_X6 py_6 rfl 40 fun J => ?_
  refine ⟨_, h0, 0, 0, _, c_stampN_none h k hk, Nat.zero_le _, Nat.zero_le _, fun v η' hv => ?_⟩
  obtain ⟨rfl, rfl⟩ := hv
  exact ⟨⟨rfl, rfl⟩, Nat.le_refl _, Nat.le_refl _⟩
theorem f_mount_x2 {X : Nat → Nat} {α : Nat → Nat → Nat} {τ : Nat → Nat} {σ : jj_S} {η : jj_H} (h : x_rep X α τ σ η) (k : Nat) (r c : Int32) (hk : k < σ 12 3) (hj : (jin r 8 && jin c 8) = false) : jj_HX mX6_mount [.ref (X 0), .int (nI k), .int r, .int c] η 1 6 (fun _ _ => False) (fun E => E = eA) := by
  have h0 := h.2.2.1
  refine jj_gx tok_X6_mount zok_X6 py_6 rfl 40 fun J => ?_
  refine ⟨_, h0, 0, 0, _, c_stampN_some h k hk, Nat.zero_le _, Nat.zero_le _, fun v η' hv => ?_⟩
  obtain ⟨rfl, rfl⟩ := hv
  refine ⟨0, 0, _, c_hasPlace0 η' _ _, Nat.zero_le _, Nat.zero_le _, fun v η'' hv => ?_⟩
  obtain ⟨rfl, rfl⟩ := hv
  refine ⟨fun c1 => ?_, fun c1 => ⟨⟨rfl, rfl⟩, Nat.le_refl _, Nat.le_refl _⟩⟩
  have c1 := b01_ne0 c1
  rw [hj] at c1
  cases c1
theorem f_mount_x3 {X : Nat → Nat} {α : Nat → Nat → Nat} {τ : Nat → Nat} {σ : jj_S} {η : jj_H} (h : x_rep X α τ σ η) (k r c : Nat) (hk : k < σ 12 3) (hr : r < 8) (hc : c < 8) (hx : σ 11 k ≠ 0 ∨ s_at σ (8 * r + c) ≠ none ∨ s_bs σ k r c 4 = none) : jj_HX mX6_mount [.ref (X 0), .int (nI k), .int (nI r), .int (nI c)] η 1 6 (fun _ _ => False) (fun E => E = eS) := by
  have h0 := h.2.2.1
  obtain ⟨k1, -⟩ := h.kk hk
  have hq : σ 11 k ≤ 64 := (h.1.k hk).2.2.2.2.2
  have hj : (jin (nI r) 8 && jin (nI c) 8) = true := by rw [jin_nI (by omega), jin_nI (by omega)]; simp [hr, hc]
  refine jj_gx tok_X6_mount zok_X6 py_6 rfl 80 fun J => ?_
  refine ⟨_, h0, 0, 0, _, c_stampN_some h k hk, Nat.zero_le _, Nat.zero_le _, fun v η' hv => ?_⟩
  obtain ⟨rfl, rfl⟩ := hv
  refine ⟨0, 0, _, c_hasPlace0 η' _ _, Nat.zero_le _, Nat.zero_le _, fun v η'' hv => ?_⟩
  obtain ⟨rfl, rfl⟩ := hv
  refine ⟨fun c1 => ⟨_, k1, 0, 0, _, c_isMounted η'' _ _ _ _ _ _ _ _ _ k1 hq, Nat.zero_le _, Nat.zero_le _, fun v η' hv => ?_⟩, fun c1 => ?_⟩
  · obtain ⟨rfl, rfl⟩ := hv
    refine ⟨fun c2 => ⟨⟨rfl, rfl⟩, Nat.le_refl _, Nat.le_refl _⟩, fun c2 => ⟨_, h0, _, h.album.1, 0, 0, _, c_stampOn h r c _ _ hr hc rfl rfl, Nat.zero_le _, Nat.zero_le _, fun v η'' hv => ?_⟩⟩
    have c2 := b01_eq0 (Classical.not_not.mp c2)
    simp at c2
    obtain ⟨rfl, rfl⟩ := hv
    cases hs : s_at σ (8 * r + c) with
    | some j => exact ⟨⟨rfl, rfl⟩, Nat.le_refl _, Nat.le_refl _⟩
    | none =>
      refine ⟨_, h0, _, h.album.1, 0, 0, _, c_fittingBeside h k r c hk hr hc, Nat.zero_le _, Nat.zero_le _, fun v η' hv => ?_⟩
      obtain ⟨rfl, rfl⟩ := hv
      have hb : s_bs σ k r c 4 = none := by
        rcases hx with z | z | z
        · exact absurd c2 z
        · exact absurd hs z
        · exact z
      rw [hb]
      exact ⟨fun c3 => absurd rfl c3, fun c3 => ⟨⟨rfl, rfl⟩, Nat.le_refl _, Nat.le_refl _⟩⟩
  · have c1 := b01_eq0 (Classical.not_not.mp c1)
    rw [hj] at c1
    cases c1
/-! THE FACE: FORGING -/
theorem x_rep.frg {X : Nat → Nat} {α : Nat → Nat → Nat} {τ : Nat → Nat} {σ : jj_S} {η η' : jj_H} (h : x_rep X α τ σ η) {k d v : Nat} (hk : k < σ 12 3) (hd : d < 4) (hv : v ≤ s_all σ k d)
    (g1 : ∀ b, b ≠ α 7 k → η' b = η b) (g2 : ∃ f, η' (α 7 k) = some (x_i 4 f) ∧ ∀ e, e < 4 → f e = nI (s_up σ 10 (4 * k + d) v 10 (4 * k + e))) : x_rep X α τ (s_up σ 10 (4 * k + d) v) η' := by
  obtain ⟨ok, tag, h0, h1, h2, h3, h4, ⟨a1, a2⟩, h6, hp, hw, hs, hst⟩ := h
  obtain ⟨p1, p2, p3⟩ := x_tag.ap ok tag
  have lk : s_live σ 7 k := hk
  have aX : ∀ j, j < 8 → η' (X j) = η (X j) := fun j hj => g1 _ (p2 j 7 k hj lk)
  have aα : ∀ f i, s_live σ f i → f ≠ 7 ∨ i ≠ k → η' (α f i) = η (α f i) := fun f i hl hn => g1 _ (p3 f i 7 k hl lk hn)
  refine ⟨?_, tag, (aX 0 (by decide)).trans h0, ?_, ?_, ?_, ?_, ⟨(aX 5 (by decide)).trans a1, ?_⟩, ?_, fun p hp2 => ?_, fun w hw2 => (aα 4 w hw2 (Or.inl (by decide))).trans (hw w hw2), fun s hs2 => ?_, fun j hj => ?_⟩
  · obtain ⟨o1, o2, o3, o4, o5, o6, o7⟩ := ok
    refine ⟨o1, o2, o3, o4, fun j hj => ?_, o6, o7⟩
    obtain ⟨b1, b2, b3, b4, b5⟩ := o5 j hj
    refine ⟨b1, b2, b3, b4, fun e he => ?_⟩
    by_cases z : 4 * j + e = 4 * k + d
    · rw [z, s_up_s]
      have z1 : j = k := by omega
      have z2 : e = d := by omega
      subst z1 z2
      exact hv
    · rw [s_up_n _ _ _ z]
      exact b5 e he
  · rw [aX 1 (by decide)]
    exact h1
  · rw [aX 2 (by decide)]
    exact h2
  · rw [aX 3 (by decide)]
    exact h3
  · rw [aX 4 (by decide)]
    exact h4
  · rw [aX 7 (by decide)]
    exact a2
  · rw [aX 6 (by decide)]
    exact h6
  · have e := x_plate.c (σ := σ) (σ' := s_up σ 10 (4 * k + d) v) rfl rfl rfl rfl (hp p hp2)
    obtain ⟨q1, q2, q3, q4⟩ := e
    have hf := (ok.2.1 p hp2).1.2.2.2.2
    refine ⟨(aα 0 p hp2 (Or.inl (by decide))).trans q1, ?_, ?_, fun j hj => (aα 3 (10 * p + j) ?_ (Or.inl (by decide))).trans (q4 j hj)⟩
    · rw [aα 1 p hp2 (Or.inl (by decide))]
      exact q2
    · rw [aα 2 p hp2 (Or.inl (by decide))]
      exact q3
    · have hj : j < σ 2 p := hj
      have e1 : (10 * p + j) / 10 = p := by omega
      have e2 : (10 * p + j) % 10 = j := by omega
      show (10 * p + j) / 10 < σ 12 0 ∧ (10 * p + j) % 10 < σ 2 ((10 * p + j) / 10)
      rw [e1, e2]
      exact ⟨hp2, hj⟩
  · obtain ⟨t, t1, t2, t3⟩ := hs s hs2
    exact ⟨t, t1, (aα 5 s hs2 (Or.inl (by decide))).trans t2, t3⟩
  · obtain ⟨k1, f, k2, k3⟩ := hst j hj
    refine ⟨(aα 6 j hj (Or.inl (by decide))).trans k1, ?_⟩
    by_cases z : j = k
    · subst z
      exact g2
    · refine ⟨f, (aα 7 j hj (Or.inr z)).trans k2, fun e he => ?_⟩
      rw [s_up_n _ _ _ (show 4 * j + e ≠ 4 * k + d by omega)]
      exact k3 e he
theorem f_forge_ok {X : Nat → Nat} {α : Nat → Nat → Nat} {τ : Nat → Nat} {σ : jj_S} {η : jj_H} (h : x_rep X α τ σ η) (k d t : Nat) (hk : k < σ 12 3) (hd : d < 4) (ht : t ≤ s_all σ k d) (hm : σ 11 k = 0) : jj_HX mX6_forge [.ref (X 0), .int (nI k), .int (nI d), .int (nI t)] η 0 0 (fun v η' => v = some (.int (nI (σ 10 (4 * k + d)))) ∧ x_rep X α τ (s_up σ 10 (4 * k + d) t) η' ∧ x_fr τ η η') (fun _ => False) := by
  have h0 := h.2.2.1
  obtain ⟨k1, ⟨f, k2, k3⟩, ⟨u, u1, u2⟩, k4⟩ := h.kk hk
  have hq : σ 11 k ≤ 64 := (h.1.k hk).2.2.2.2.2
  have hg := h.1.2.2.2.1 _ (h.1.k hk).1
  have ea := s_al_all σ k d
  have hu : s_al (σ 6 (8 * σ 7 k + 6)) (σ 6 (8 * σ 7 k + 7)) d ≤ 65535 := s_al_le (by omega) (by omega)
  have hj : jin (nI d) 4 = true := by rw [jin_nI (by omega)]; simp [hd]
  refine jj_gx tok_X6_forge zok_X6 py_6 rfl 80 fun J => ?_
  refine ⟨_, h0, 0, 0, _, c_stampN_some h k hk, Nat.le_refl _, Nat.le_refl _, fun v η' hv => ?_⟩
  obtain ⟨rfl, rfl⟩ := hv
  refine ⟨0, 0, _, c_isSide η' _, Nat.le_refl _, Nat.le_refl _, fun v η'' hv => ?_⟩
  obtain ⟨rfl, rfl⟩ := hv
  refine ⟨fun c1 => ⟨_, k1, _, u2, 0, 0, _, c_allTeeth η'' _ _ _ d _ _ _ _ _ _ _ u2 (by omega) (by omega) hd, Nat.le_refl _, Nat.le_refl _, fun v η' hv => ?_⟩, fun c1 => ?_⟩
  · obtain ⟨rfl, rfl⟩ := hv
    refine ⟨0, 0, _, c_isOutside η' _ _ _, Nat.le_refl _, Nat.le_refl _, fun v η'' hv => ?_⟩
    obtain ⟨rfl, rfl⟩ := hv
    refine ⟨fun c2 => ⟨_, k1, 0, 0, _, c_isMounted η'' _ _ _ _ _ _ _ _ _ k1 hq, Nat.le_refl _, Nat.le_refl _, fun v η' hv => ?_⟩, fun c2 => ?_⟩
    · obtain ⟨rfl, rfl⟩ := hv
      refine ⟨fun c3 => ⟨_, k1, 0, 0, _, c_teethAt η' _ _ d f _ _ _ _ _ _ _ k1 k2 hd, Nat.le_refl _, Nat.le_refl _, fun v η'' hv => ?_⟩, fun c3 => ?_⟩
      · obtain ⟨rfl, rfl⟩ := hv
        refine ⟨_, k1, 0, 0, _, c_putTeeth η'' _ _ d (nI t) f _ _ _ _ _ _ _ k1 k2 hd, Nat.le_refl _, Nat.le_refl _, fun v η2 hv => ?_⟩
        obtain ⟨rfl, rfl⟩ := hv
        refine ⟨trivial, ⟨by rw [k3 d hd], h.frg hk hd ht (fun b hb => up_n hb) ⟨_, up_s, fun e he => ?_⟩, fun b _ b1 b2 => up_n fun z => ?_⟩, Nat.zero_le _, Nat.zero_le _⟩
        · by_cases z : e = d
          · rw [z, pk_us, s_up_s]
          · rw [pk_un z, s_up_n _ _ _ (show 4 * k + e ≠ 4 * k + d by omega)]
            exact k3 e he
        · have := h.2.1.2 7 k hk
          rw [← z] at this
          omega
      · have c3 := b01_ne0 c3
        simp [hm] at c3
    · have c2 := b01_ne0 c2
      rw [i0, iN (by omega), iN (by omega)] at c2
      simp at c2
      omega
  · have c1 := b01_eq0 (Classical.not_not.mp c1)
    rw [hj] at c1
    cases c1
