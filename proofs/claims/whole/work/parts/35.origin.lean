theorem lN_z {t : Nat} (ht : t < 2 ^ 64) (h : lN t = 0) : t = 0 := by
  have e := congrArg (fun x : Int64 => x.toBitVec.toNat) h
  have e : (lN t).toBitVec.toNat = 0 := e
  rw [wb_tn ht] at e
  exact e
theorem f_setSheet_x3 {X : Nat → Nat} {α : Nat → Nat → Nat} {τ : Nat → Nat} {σ : jj_S} {η : jj_H} (h : x_rep X α τ σ η) (s r c a d k : Nat) (hs : s < σ 12 2) (hk : k < σ 12 3) (hk2 : σ 7 k = s) (hr : r ≤ 3) (hc : c ≤ 3) (ha : 5 ≤ a ∧ a ≤ 16) (hd : 5 ≤ d ∧ d ≤ 16) : jj_HX mX6_setSheet [.ref (X 0), .int (nI s), .int (nI r), .int (nI c), .int (nI a), .int (nI d)] η 1 6 (fun _ _ => False) (fun E => E = eS) := by
  have h0 := h.2.2.1
  obtain ⟨t, t1, t2, t3, t4⟩ := h.sheet hs
  have tz : t ≠ 0 := fun z => t4.mp z k hk hk2
  have e3 : (nI 3).toInt = 3 := rfl
  have e5 : (nI 5).toInt = 5 := rfl
  have e16 : (nI 16).toInt = 16 := rfl
  refine jj_gx tok_X6_setSheet zok_X6 py_6 rfl 120 fun J => ?_
  refine ⟨_, h0, 0, 0, _, c_sheetN_some h s hs, Nat.zero_le _, Nat.zero_le _, fun v η' hv => ?_⟩
  obtain ⟨rfl, rfl⟩ := hv
  refine ⟨0, 0, _, c_isOutside η' _ _ _, Nat.zero_le _, Nat.zero_le _, fun v η'' hv => ?_⟩
  obtain ⟨rfl, rfl⟩ := hv
  refine ⟨fun c1 => ?_, fun c1 => ⟨0, 0, _, c_isOutside η'' _ _ _, Nat.zero_le _, Nat.zero_le _, fun v η' hv => ?_⟩⟩
  · have c1 := b01_ne0 c1
    rw [i0, e3, iN (by omega)] at c1
    simp at c1
    omega
  obtain ⟨rfl, rfl⟩ := hv
  refine ⟨fun c1 => ?_, fun c1 => ⟨0, 0, _, c_isOutside η' _ _ _, Nat.zero_le _, Nat.zero_le _, fun v η'' hv => ?_⟩⟩
  · have c1 := b01_ne0 c1
    rw [i0, e3, iN (by omega)] at c1
    simp at c1
    omega
  obtain ⟨rfl, rfl⟩ := hv
  refine ⟨fun c1 => ?_, fun c1 => ⟨0, 0, _, c_isOutside η'' _ _ _, Nat.zero_le _, Nat.zero_le _, fun v η' hv => ?_⟩⟩
  · have c1 := b01_ne0 c1
    rw [e5, e16, iN (by omega)] at c1
    simp at c1
    omega
  obtain ⟨rfl, rfl⟩ := hv
  refine ⟨fun c1 => ⟨_, t2, fun c2 => ?_, fun c2 => ⟨⟨rfl, rfl⟩, Nat.le_refl _, Nat.le_refl _⟩⟩, fun c1 => ?_⟩
  · exact absurd (lN_z t1 ((lg0 _ _).mp c2)) tz
  · have c1 := b01_ne0 c1
    rw [e5, e16, iN (by omega)] at c1
    simp at c1
    omega
/-! THE FACE: ORIGINS -/
/-- v is the i-th origin of the stamp k, or -1 if there are not so many -/
def s_iso (σ : jj_S) (k i : Nat) (v : Int32) : Prop :=
  (∃ p q, p < σ 12 0 ∧ q < σ 1 p * σ 0 p ∧ s_lk σ p (s_flk σ k) (s_strn σ k 4) q = true ∧ s_orn σ k p + fb_ct (s_lk σ p (s_flk σ k) (s_strn σ k 4)) q = i ∧ v = nI (64 * p + (8 * (q / σ 1 p) + q % σ 1 p))) ∨ (s_orn σ k (σ 12 0) ≤ i ∧ v = -1)
theorem s_lkn_64 {σ : jj_S} (h : s_ok σ) {p : Nat} (hp : p < σ 12 0) (s t : Nat) : s_lkn σ p s t ≤ 64 := by
  obtain ⟨⟨b1, b2, b3, b4, -⟩, -⟩ := h.2.1 p hp
  refine Nat.le_trans (fb_ct_le _ _) ?_
  exact Nat.mul_le_mul b4 b2
theorem f_origin_ok {X : Nat → Nat} {α : Nat → Nat → Nat} {τ : Nat → Nat} {σ : jj_S} {η : jj_H} (h : x_rep X α τ σ η) (k i : Nat) (hk : k < σ 12 3) (hi : i < 2147483648) : jj_HX mX6_origin [.ref (X 0), .int (nI k), .int (nI i)] η 0 0 (fun v η' => (∃ x, v = some (.int x) ∧ s_iso σ k i x) ∧ η' = η) (fun _ => False) := by
  have h0 := h.2.2.1
  have hn : σ 12 0 ≤ 6 := h.1.1.1
  obtain ⟨k1, -⟩ := h.kk hk
  refine jj_lx tok_X6_origin zok_X6 py_6 rfl fun J run => ?_
  have loop : ∀ m p, p + m = σ 12 0 → s_orn σ k p ≤ i → J η 0 0 42 [(0, .ref (X 0)), (1, .int (nI k)), (2, .int (nI i)), (3, .ref (α 6 k)), (4, .int (nI (s_flk σ k))), (5, .int (nI (s_strn σ k 4))), (6, .int (nI (i - s_orn σ k p))), (7, .int (nI p))] [] := by
    intro m
    induction m with
    | zero =>
      intro p hp hle
      have hp : p = σ 12 0 := hp
      refine run [] 20 ?_
      refine ⟨_, h0, fun c1 => ⟨trivial, ⟨⟨_, rfl, Or.inr ⟨by rw [← hp]; exact hle, rfl⟩⟩, rfl⟩, Nat.zero_le _, Nat.zero_le _⟩, fun c1 => ?_⟩
      rw [cb_ge, iN (by omega), iN (by omega)] at c1
      omega
    | succ m ih =>
      intro p hp hle
      have hpn : p < σ 12 0 := by omega
      have l64 := s_lkn_64 h.1 hpn (s_flk σ k) (s_strn σ k 4)
      have e : s_orn σ k (p + 1) = s_orn σ k p + s_lkn σ p (s_flk σ k) (s_strn σ k 4) := by
        conv => lhs; unfold s_orn
        rw [if_pos hpn]
      have ih := ih (p + 1) (by omega)
      obtain ⟨pl, -⟩ := h.plate hpn
      refine run [(42, 8)] 80 ?_
      refine ⟨_, h0, fun c1 => ?_, fun c1 => ⟨_, h0, 0, 0, _, c_plateN_some h p hpn, Nat.le_refl _, Nat.le_refl _, fun v η' hv => ?_⟩⟩
      · rw [cb_ge, iN (by omega), iN (by omega)] at c1
        omega
      obtain ⟨rfl, rfl⟩ := hv
      refine ⟨_, pl, 0, 0, _, c_placesLike (h.plate hpn) (h.okp hpn) _ _ (s_flk_lt h.1 hk) (s_str_lt σ k), Nat.le_refl _, Nat.le_refl _, fun v η'' hv => ?_⟩
      obtain ⟨rfl, rfl⟩ := hv
      refine ⟨fun c2 => ?_, fun c2 => ?_⟩
      · rw [cb_ge, iN (by omega), iN (by omega)] at c2
        rw [e, Nat.sub_add_eq, ← pk_sub (show s_lkn σ p (s_flk σ k) (s_strn σ k 4) ≤ i - s_orn σ k p by omega), ← nI_add p 1] at ih
        exact ih (by omega)
      · rw [cb_ge, iN (by omega), iN (by omega)] at c2
        refine ⟨_, pl, 0, 0, _, c_placeLike (h.plate hpn) (h.okp hpn) _ _ (i - s_orn σ k p) (s_flk_lt h.1 hk) (s_str_lt σ k) (by omega), Nat.le_refl _, Nat.le_refl _, fun v η' hv => ?_⟩
        obtain ⟨⟨q, q1, q2, q3, rfl⟩, rfl⟩ := hv
        refine ⟨trivial, ⟨⟨_, rfl, Or.inl ⟨p, q, hpn, q1, q2, by omega, ?_⟩⟩, rfl⟩, Nat.zero_le _, Nat.zero_le _⟩
        rw [pk_mul, nI_add, Nat.mul_comm p 64]
  refine run [(42, 8)] 60 ?_
  refine ⟨_, h0, 0, 0, _, c_stampN_some h k hk, Nat.le_refl _, Nat.le_refl _, fun v η' hv => ?_⟩
  obtain ⟨rfl, rfl⟩ := hv
  refine ⟨fun c1 => ⟨_, k1, 0, 0, _, c_flaws h k hk, Nat.le_refl _, Nat.le_refl _, fun v η'' hv => ?_⟩, fun c1 => ?_⟩
  · obtain ⟨rfl, rfl⟩ := hv
    refine ⟨_, k1, 0, 0, _, c_straightSides h k hk, Nat.le_refl _, Nat.le_refl _, fun v η' hv => ?_⟩
    obtain ⟨rfl, rfl⟩ := hv
    exact loop (σ 12 0) 0 (by omega) (Nat.zero_le _)
  · rw [cb_ge, i0, iN (by omega)] at c1
    omega
theorem f_origin_x {X : Nat → Nat} {α : Nat → Nat → Nat} {τ : Nat → Nat} {σ : jj_S} {η : jj_H} (h : x_rep X α τ σ η) (k i : Int32) (hj : (jin k (σ 12 3) && decide (0 ≤ i.toInt)) = false) : jj_HX mX6_origin [.ref (X 0), .int k, .int i] η 1 6 (fun _ _ => False) (fun E => E = eI) := by
  have h0 := h.2.2.1
  refine jj_gx tok_X6_origin zok_X6 py_6 rfl 20 fun J => ?_
  cases hk : jin k (σ 12 3) with
  | false =>
    refine ⟨_, h0, 0, 0, _, c_stampN_none h k hk, Nat.zero_le _, Nat.zero_le _, fun v η' hv => ?_⟩
    obtain ⟨rfl, rfl⟩ := hv
    exact ⟨⟨rfl, rfl⟩, Nat.le_refl _, Nat.le_refl _⟩
  | true =>
    obtain ⟨k, rfl, hk2, -⟩ := jin_of hk
    refine ⟨_, h0, 0, 0, _, c_stampN_some h k hk2, Nat.zero_le _, Nat.zero_le _, fun v η' hv => ?_⟩
    obtain ⟨rfl, rfl⟩ := hv
    refine ⟨fun c2 => ?_, fun c2 => ⟨⟨rfl, rfl⟩, Nat.le_refl _, Nat.le_refl _⟩⟩
    rw [cb_ge, i0] at c2
    rw [hk] at hj
    simp at hj
    omega
