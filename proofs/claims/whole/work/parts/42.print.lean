/-! THE FACE: NEW SHEETS -/
theorem f_print_x2 {X : Nat → Nat} {α : Nat → Nat → Nat} {τ : Nat → Nat} {σ : jj_S} {η : jj_H} (h : x_rep X α τ σ η) (p w : Nat) (r s : Int32) (hp : p < σ 12 0) (hw : w < σ 12 1) (hj : (jin r 1000 && jin s 10000) = false) : jj_HX mX6_print [.ref (X 0), .int (nI p), .int (nI w), .int r, .int s] η 1 6 (fun _ _ => False) (fun E => E = eA) := by
  have h0 := h.2.2.1
  have e1 : (nI 999).toInt = 999 := rfl
  have e8 : (nI 9999).toInt = 9999 := rfl
  refine jj_gx tok_X6_print zok_X6 py_6 rfl 60 fun J => ?_
  refine ⟨_, h0, 0, 0, _, c_plateN_some h p hp, Nat.zero_le _, Nat.zero_le _, fun v η' hv => ?_⟩
  obtain ⟨rfl, rfl⟩ := hv
  refine ⟨_, h0, 0, 0, _, c_paperN_some h w hw, Nat.zero_le _, Nat.zero_le _, fun v η'' hv => ?_⟩
  obtain ⟨rfl, rfl⟩ := hv
  refine ⟨0, 0, _, c_isOutside η'' _ _ _, Nat.zero_le _, Nat.zero_le _, fun v η' hv => ?_⟩
  obtain ⟨rfl, rfl⟩ := hv
  refine ⟨fun c1 => ⟨⟨rfl, rfl⟩, Nat.le_refl _, Nat.le_refl _⟩, fun c1 => ⟨0, 0, _, c_isOutside η' _ _ _, Nat.zero_le _, Nat.zero_le _, fun v η'' hv => ?_⟩⟩
  obtain ⟨rfl, rfl⟩ := hv
  refine ⟨fun c2 => ?_, fun c2 => ⟨⟨rfl, rfl⟩, Nat.le_refl _, Nat.le_refl _⟩⟩
  have c1 := b01_eq0 (Classical.not_not.mp c1)
  have c2 := b01_eq0 c2
  rw [i0, e1] at c1
  rw [i0, e8] at c2
  simp [jin] at c1 c2 hj
  omega
theorem f_print_x3 {X : Nat → Nat} {α : Nat → Nat → Nat} {τ : Nat → Nat} {σ : jj_S} {η : jj_H} (h : x_rep X α τ σ η) (p w r s : Nat) (hp : p < σ 12 0) (hw : w < σ 12 1) (hr : r < 1000) (hs : s < 10000) (hn : σ 12 2 = 10) : jj_HX mX6_print [.ref (X 0), .int (nI p), .int (nI w), .int (nI r), .int (nI s)] η 1 6 (fun _ _ => False) (fun E => E = eS) := by
  have h0 := h.2.2.1
  obtain ⟨f, hf, hff⟩ := h.2.2.2.2.2.1
  have e1 : (nI 999).toInt = 999 := rfl
  have e8 : (nI 9999).toInt = 9999 := rfl
  have e10 : (nI 10).toInt = 10 := rfl
  refine jj_gx tok_X6_print zok_X6 py_6 rfl 60 fun J => ?_
  refine ⟨_, h0, 0, 0, _, c_plateN_some h p hp, Nat.zero_le _, Nat.zero_le _, fun v η' hv => ?_⟩
  obtain ⟨rfl, rfl⟩ := hv
  refine ⟨_, h0, 0, 0, _, c_paperN_some h w hw, Nat.zero_le _, Nat.zero_le _, fun v η'' hv => ?_⟩
  obtain ⟨rfl, rfl⟩ := hv
  refine ⟨0, 0, _, c_isOutside η'' _ _ _, Nat.zero_le _, Nat.zero_le _, fun v η' hv => ?_⟩
  obtain ⟨rfl, rfl⟩ := hv
  refine ⟨fun c1 => ?_, fun c1 => ⟨0, 0, _, c_isOutside η' _ _ _, Nat.zero_le _, Nat.zero_le _, fun v η'' hv => ?_⟩⟩
  · have c1 := b01_ne0 c1
    rw [i0, e1, iN (by omega)] at c1
    simp at c1
    omega
  obtain ⟨rfl, rfl⟩ := hv
  refine ⟨fun c2 => ⟨_, h0, _, h0, _, _, _, hf, fun c3 => ?_, fun c3 => ⟨⟨rfl, rfl⟩, Nat.le_refl _, Nat.le_refl _⟩⟩, fun c2 => ?_⟩
  · rw [cb_lt, hn, e10] at c3
    omega
  · have c2 := b01_ne0 c2
    rw [i0, e8, iN (by omega)] at c2
    simp at c2
    omega
theorem f_print_x1 {X : Nat → Nat} {α : Nat → Nat → Nat} {τ : Nat → Nat} {σ : jj_S} {η : jj_H} (h : x_rep X α τ σ η) (p w r s : Int32) (hj : (jin p (σ 12 0) && jin w (σ 12 1)) = false) : jj_HX mX6_print [.ref (X 0), .int p, .int w, .int r, .int s] η 1 6 (fun _ _ => False) (fun E => E = eI) := by
  have h0 := h.2.2.1
  refine jj_gx tok_X6_print zok_X6 py_6 rfl 60 fun J => ?_
  cases hp : jin p (σ 12 0) with
  | false =>
    cases hw : jin w (σ 12 1) with
    | false =>
      refine ⟨_, h0, 0, 0, _, c_plateN_none h p hp, Nat.zero_le _, Nat.zero_le _, fun v η' hv => ?_⟩
      obtain ⟨rfl, rfl⟩ := hv
      refine ⟨_, h0, 0, 0, _, c_paperN_none h w hw, Nat.zero_le _, Nat.zero_le _, fun v η'' hv => ?_⟩
      obtain ⟨rfl, rfl⟩ := hv
      exact ⟨⟨rfl, rfl⟩, Nat.le_refl _, Nat.le_refl _⟩
    | true =>
      obtain ⟨w, rfl, hw2, -⟩ := jin_of hw
      refine ⟨_, h0, 0, 0, _, c_plateN_none h p hp, Nat.zero_le _, Nat.zero_le _, fun v η' hv => ?_⟩
      obtain ⟨rfl, rfl⟩ := hv
      refine ⟨_, h0, 0, 0, _, c_paperN_some h w hw2, Nat.zero_le _, Nat.zero_le _, fun v η'' hv => ?_⟩
      obtain ⟨rfl, rfl⟩ := hv
      exact ⟨⟨rfl, rfl⟩, Nat.le_refl _, Nat.le_refl _⟩
  | true =>
    obtain ⟨p, rfl, hp2, -⟩ := jin_of hp
    rw [hp, Bool.true_and] at hj
    refine ⟨_, h0, 0, 0, _, c_plateN_some h p hp2, Nat.zero_le _, Nat.zero_le _, fun v η' hv => ?_⟩
    obtain ⟨rfl, rfl⟩ := hv
    refine ⟨_, h0, 0, 0, _, c_paperN_none h w hj, Nat.zero_le _, Nat.zero_le _, fun v η'' hv => ?_⟩
    obtain ⟨rfl, rfl⟩ := hv
    exact ⟨⟨rfl, rfl⟩, Nat.le_refl _, Nat.le_refl _⟩
