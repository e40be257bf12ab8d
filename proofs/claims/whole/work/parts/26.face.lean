/-! THE FACE: WHAT ONLY READS -/
abbrev eI : String := "java/lang/IndexOutOfBoundsException"
abbrev eA : String := "java/lang/IllegalArgumentException"
abbrev eS : String := "java/lang/IllegalStateException"
theorem f_at_ok {X : Nat → Nat} {α : Nat → Nat → Nat} {τ : Nat → Nat} {σ : jj_S} {η : jj_H} (h : x_rep X α τ σ η) (r c : Nat) (hr : r < 8) (hc : c < 8) : jj_HX mX6_at [.ref (X 0), .int (nI r), .int (nI c)] η 0 0 (fun v η' => v = some (.int (oI (s_at σ (8 * r + c)))) ∧ η' = η) (fun _ => False) := by
  have h0 := h.2.2.1
  refine jj_gx tok_X6_at zok_X6 py_6 rfl 40 fun J => ?_
  refine ⟨0, 0, _, c_hasPlace0 η _ _, Nat.le_refl _, Nat.le_refl _, fun v η' hv => ?_⟩
  obtain ⟨rfl, rfl⟩ := hv
  have hj : (jin (nI r) 8 && jin (nI c) 8) = true := by rw [jin_nI (by omega), jin_nI (by omega)]; simp [hr, hc]
  refine ⟨fun c1 => ⟨_, h0, _, h.album.1, 0, 0, _, c_stampOn h r c _ _ hr hc rfl rfl, Nat.le_refl _, Nat.le_refl _, fun v η'' hv => ?_⟩, fun c1 => ?_⟩
  · obtain ⟨rfl, rfl⟩ := hv
    cases hs : s_at σ (8 * r + c) with
    | none => exact ⟨trivial, ⟨rfl, rfl⟩, Nat.zero_le _, Nat.zero_le _⟩
    | some k =>
      obtain ⟨k1, -⟩ := h.kk (s_at_some hs).1
      exact ⟨_, k1, trivial, ⟨rfl, rfl⟩, Nat.zero_le _, Nat.zero_le _⟩
  · have c1 := b01_eq0 (Classical.not_not.mp c1)
    rw [hj] at c1
    cases c1
theorem f_at_x (X : Nat → Nat) (η : jj_H) (r c : Int32) (hj : (jin r 8 && jin c 8) = false) : jj_HX mX6_at [.ref (X 0), .int r, .int c] η 1 6 (fun _ _ => False) (fun E => E = eI) := by
  refine jj_gx tok_X6_at zok_X6 py_6 rfl 40 fun J => ?_
  refine ⟨0, 0, _, c_hasPlace0 η _ _, Nat.zero_le _, Nat.zero_le _, fun v η' hv => ?_⟩
  obtain ⟨rfl, rfl⟩ := hv
  refine ⟨fun c1 => ?_, fun c1 => ⟨⟨rfl, rfl⟩, Nat.le_refl _, Nat.le_refl _⟩⟩
  have c1 := b01_ne0 c1
  rw [hj] at c1
  cases c1
theorem f_stamp_ok {X : Nat → Nat} {α : Nat → Nat → Nat} {τ : Nat → Nat} {σ : jj_S} {η : jj_H} (h : x_rep X α τ σ η) (k w : Nat) (hk : k < σ 12 3) (hw : w < 11) : jj_HX mX6_stamp [.ref (X 0), .int (nI k), .int (nI w)] η 0 0 (fun v η' => v = some (.int (s_det σ k w)) ∧ η' = η) (fun _ => False) := by
  have h0 := h.2.2.1
  have e10 : (nI 10).toInt = 10 := rfl
  refine jj_gx tok_X6_stamp zok_X6 py_6 rfl 60 fun J => ?_
  refine ⟨_, h0, 0, 0, _, c_stampN_some h k hk, Nat.le_refl _, Nat.le_refl _, fun v η' hv => ?_⟩
  obtain ⟨rfl, rfl⟩ := hv
  refine ⟨0, 0, _, c_isOutside η' _ _ _, Nat.le_refl _, Nat.le_refl _, fun v η'' hv => ?_⟩
  obtain ⟨rfl, rfl⟩ := hv
  obtain ⟨k1, -⟩ := h.kk hk
  refine ⟨fun c1 => ⟨_, k1, 0, 0, _, c_detail h k w hk hw, Nat.le_refl _, Nat.le_refl _, fun v η' hv => ?_⟩, fun c1 => ?_⟩
  · obtain ⟨rfl, rfl⟩ := hv
    exact ⟨trivial, ⟨rfl, rfl⟩, Nat.zero_le _, Nat.zero_le _⟩
  · have c1 := b01_ne0 c1
    rw [e10, i0, iN (by omega)] at c1
    simp at c1
    omega
theorem f_stamp_x {X : Nat → Nat} {α : Nat → Nat → Nat} {τ : Nat → Nat} {σ : jj_S} {η : jj_H} (h : x_rep X α τ σ η) (k w : Int32) (hj : (jin k (σ 12 3) && jin w 11) = false) : jj_HX mX6_stamp [.ref (X 0), .int k, .int w] η 1 6 (fun _ _ => False) (fun E => E = eI) := by
  have h0 := h.2.2.1
  have e10 : (nI 10).toInt = 10 := rfl
  refine jj_gx tok_X6_stamp zok_X6 py_6 rfl 60 fun J => ?_
  cases hk : jin k (σ 12 3) with
  | false =>
    refine ⟨_, h0, 0, 0, _, c_stampN_none h k hk, Nat.zero_le _, Nat.zero_le _, fun v η' hv => ?_⟩
    obtain ⟨rfl, rfl⟩ := hv
    exact ⟨⟨rfl, rfl⟩, Nat.le_refl _, Nat.le_refl _⟩
  | true =>
    obtain ⟨k, rfl, hk2, -⟩ := jin_of hk
    refine ⟨_, h0, 0, 0, _, c_stampN_some h k hk2, Nat.zero_le _, Nat.zero_le _, fun v η' hv => ?_⟩
    obtain ⟨rfl, rfl⟩ := hv
    refine ⟨0, 0, _, c_isOutside η' _ _ _, Nat.zero_le _, Nat.zero_le _, fun v η'' hv => ?_⟩
    obtain ⟨rfl, rfl⟩ := hv
    refine ⟨fun c1 => ?_, fun c1 => ⟨⟨rfl, rfl⟩, Nat.le_refl _, Nat.le_refl _⟩⟩
    have c1 := b01_eq0 c1
    rw [hk] at hj
    rw [e10, i0] at c1
    simp [jin] at hj c1
    omega
theorem f_fits_ok {X : Nat → Nat} {α : Nat → Nat → Nat} {τ : Nat → Nat} {σ : jj_S} {η : jj_H} (h : x_rep X α τ σ η) (a d b : Nat) (ha : a < σ 12 3) (hd : d < 4) (hb : b < σ 12 3) (hab : a ≠ b) : jj_HX mX6_fits [.ref (X 0), .int (nI a), .int (nI d), .int (nI b)] η 0 0 (fun v η' => v = some (.int (b01 (s_fit σ a d b))) ∧ η' = η) (fun _ => False) := by
  have h0 := h.2.2.1
  have hn : σ 12 3 ≤ 40 := h.1.1.2.2.2
  refine jj_gx tok_X6_fits zok_X6 py_6 rfl 60 fun J => ?_
  refine ⟨_, h0, 0, 0, _, c_stampN_some h a ha, Nat.le_refl _, Nat.le_refl _, fun v η' hv => ?_⟩
  obtain ⟨rfl, rfl⟩ := hv
  refine ⟨_, h0, 0, 0, _, c_stampN_some h b hb, Nat.le_refl _, Nat.le_refl _, fun v η'' hv => ?_⟩
  obtain ⟨rfl, rfl⟩ := hv
  refine ⟨0, 0, _, c_isSide η'' _, Nat.le_refl _, Nat.le_refl _, fun v η' hv => ?_⟩
  obtain ⟨rfl, rfl⟩ := hv
  obtain ⟨k1, -⟩ := h.kk ha
  have hj : jin (nI d) 4 = true := by rw [jin_nI (by omega)]; simp [hd]
  refine ⟨fun c1 => ⟨fun c2 => ⟨_, k1, 0, 0, _, c_joins h a b d ha hb hd, Nat.le_refl _, Nat.le_refl _, fun v η'' hv => ?_⟩, fun c2 => ?_⟩, fun c1 => ?_⟩
  · obtain ⟨rfl, rfl⟩ := hv
    exact ⟨b01_01 _, ⟨rfl, rfl⟩, Nat.zero_le _, Nat.zero_le _⟩
  · rw [cb_ne, iN (by omega), iN (by omega)] at c2
    omega
  · have c1 := b01_eq0 (Classical.not_not.mp c1)
    rw [hj] at c1
    cases c1
theorem f_fits_x1 {X : Nat → Nat} {α : Nat → Nat → Nat} {τ : Nat → Nat} {σ : jj_S} {η : jj_H} (h : x_rep X α τ σ η) (a d b : Int32) (hj : (jin a (σ 12 3) && jin b (σ 12 3) && jin d 4) = false) : jj_HX mX6_fits [.ref (X 0), .int a, .int d, .int b] η 1 6 (fun _ _ => False) (fun E => E = eI) := by
  have h0 := h.2.2.1
  refine jj_gx tok_X6_fits zok_X6 py_6 rfl 60 fun J => ?_
  have fst : ∃ v : Value, (jin a (σ 12 3) = false → v = .null) ∧ (v = .null ∨ ∃ k, v = .ref k) ∧ jj_Ht mX6_stampNumbered [.ref (X 0), .int a] η 0 0 (fun w η' => w = some v ∧ η' = η) := by
    cases ha : jin a (σ 12 3) with
    | false => exact ⟨.null, fun _ => rfl, Or.inl rfl, c_stampN_none h a ha⟩
    | true =>
      obtain ⟨k, rfl, hk2, -⟩ := jin_of ha
      exact ⟨.ref (α 6 k), (fun z => by cases z), Or.inr ⟨_, rfl⟩, c_stampN_some h k hk2⟩
  have snd : ∃ v : Value, (jin b (σ 12 3) = false → v = .null) ∧ (v = .null ∨ ∃ k, v = .ref k) ∧ jj_Ht mX6_stampNumbered [.ref (X 0), .int b] η 0 0 (fun w η' => w = some v ∧ η' = η) := by
    cases ha : jin b (σ 12 3) with
    | false => exact ⟨.null, fun _ => rfl, Or.inl rfl, c_stampN_none h b ha⟩
    | true =>
      obtain ⟨k, rfl, hk2, -⟩ := jin_of ha
      exact ⟨.ref (α 6 k), (fun z => by cases z), Or.inr ⟨_, rfl⟩, c_stampN_some h k hk2⟩
  obtain ⟨v1, n1, o1, q1⟩ := fst
  obtain ⟨v2, n2, o2, q2⟩ := snd
  rcases o1 with rfl | ⟨k, rfl⟩ <;> rcases o2 with rfl | ⟨k2, rfl⟩ <;> (refine ⟨_, h0, 0, 0, _, q1, Nat.zero_le _, Nat.zero_le _, fun v η' hv => ?_⟩; obtain ⟨rfl, rfl⟩ := hv; refine ⟨_, h0, 0, 0, _, q2, Nat.zero_le _, Nat.zero_le _, fun v η'' hv => ?_⟩; obtain ⟨rfl, rfl⟩ := hv)
  · exact ⟨⟨rfl, rfl⟩, Nat.le_refl _, Nat.le_refl _⟩
  · exact ⟨⟨rfl, rfl⟩, Nat.le_refl _, Nat.le_refl _⟩
  · exact ⟨⟨rfl, rfl⟩, Nat.le_refl _, Nat.le_refl _⟩
  refine ⟨0, 0, _, c_isSide _ _, Nat.zero_le _, Nat.zero_le _, fun v η' hv => ?_⟩
  obtain ⟨rfl, rfl⟩ := hv
  refine ⟨fun c1 => ?_, fun c1 => ⟨⟨rfl, rfl⟩, Nat.le_refl _, Nat.le_refl _⟩⟩
  have c1 := b01_ne0 c1
  have z1 : jin a (σ 12 3) = true := by
    cases ha : jin a (σ 12 3) with
    | true => rfl
    | false => cases n1 ha
  have z2 : jin b (σ 12 3) = true := by
    cases ha : jin b (σ 12 3) with
    | true => rfl
    | false => cases n2 ha
  rw [z1, z2, c1] at hj
  cases hj
theorem f_fits_x2 {X : Nat → Nat} {α : Nat → Nat → Nat} {τ : Nat → Nat} {σ : jj_S} {η : jj_H} (h : x_rep X α τ σ η) (a d : Nat) (ha : a < σ 12 3) (hd : d < 4) : jj_HX mX6_fits [.ref (X 0), .int (nI a), .int (nI d), .int (nI a)] η 1 6 (fun _ _ => False) (fun E => E = eA) := by
  have h0 := h.2.2.1
  refine jj_gx tok_X6_fits zok_X6 py_6 rfl 60 fun J => ?_
  refine ⟨_, h0, 0, 0, _, c_stampN_some h a ha, Nat.zero_le _, Nat.zero_le _, fun v η' hv => ?_⟩
  obtain ⟨rfl, rfl⟩ := hv
  refine ⟨_, h0, 0, 0, _, c_stampN_some h a ha, Nat.zero_le _, Nat.zero_le _, fun v η'' hv => ?_⟩
  obtain ⟨rfl, rfl⟩ := hv
  refine ⟨0, 0, _, c_isSide η'' _, Nat.zero_le _, Nat.zero_le _, fun v η' hv => ?_⟩
  obtain ⟨rfl, rfl⟩ := hv
  have hj : jin (nI d) 4 = true := by rw [jin_nI (by omega)]; simp [hd]
  refine ⟨fun c1 => ⟨fun c2 => absurd rfl c2, fun c2 => ⟨⟨rfl, rfl⟩, Nat.le_refl _, Nat.le_refl _⟩⟩, fun c1 => ?_⟩
  have c1 := b01_eq0 (Classical.not_not.mp c1)
  rw [hj] at c1
  cases c1
