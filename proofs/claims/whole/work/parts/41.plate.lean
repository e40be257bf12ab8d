/-! THE FACE: NEW PLATES -/
theorem f_addPlate_x1 (X : Nat → Nat) (η : jj_H) (w k : Int32) (hj : (j1 w 8 && j1 k 8) = false) : jj_HX mX6_addPlate [.ref (X 0), .int w, .int k] η 1 6 (fun _ _ => False) (fun E => E = eA) := by
  have e1 : (nI 1).toInt = 1 := rfl
  have e8 : (nI 8).toInt = 8 := rfl
  refine jj_gx tok_X6_addPlate zok_X6 py_6 rfl 40 fun J => ?_
  refine ⟨0, 0, _, c_isOutside η _ _ _, Nat.zero_le _, Nat.zero_le _, fun v η' hv => ?_⟩
  obtain ⟨rfl, rfl⟩ := hv
  refine ⟨fun c1 => ⟨⟨rfl, rfl⟩, Nat.le_refl _, Nat.le_refl _⟩, fun c1 => ⟨0, 0, _, c_isOutside η' _ _ _, Nat.zero_le _, Nat.zero_le _, fun v η'' hv => ?_⟩⟩
  obtain ⟨rfl, rfl⟩ := hv
  refine ⟨fun c2 => ?_, fun c2 => ⟨⟨rfl, rfl⟩, Nat.le_refl _, Nat.le_refl _⟩⟩
  have c1 := b01_eq0 (Classical.not_not.mp c1)
  have c2 := b01_eq0 c2
  rw [e1, e8] at c1 c2
  simp [j1] at c1 c2 hj
  omega
theorem f_addPlate_x2 {X : Nat → Nat} {α : Nat → Nat → Nat} {τ : Nat → Nat} {σ : jj_S} {η : jj_H} (h : x_rep X α τ σ η) (w k : Nat) (hw : 1 ≤ w ∧ w ≤ 8) (hk : 1 ≤ k ∧ k ≤ 8) (hn : σ 12 0 = 6) : jj_HX mX6_addPlate [.ref (X 0), .int (nI w), .int (nI k)] η 1 6 (fun _ _ => False) (fun E => E = eS) := by
  have h0 := h.2.2.1
  obtain ⟨f, hf, hff⟩ := h.2.2.2.1
  have e1 : (nI 1).toInt = 1 := rfl
  have e8 : (nI 8).toInt = 8 := rfl
  have e6 : (nI 6).toInt = 6 := rfl
  refine jj_gx tok_X6_addPlate zok_X6 py_6 rfl 60 fun J => ?_
  refine ⟨0, 0, _, c_isOutside η _ _ _, Nat.zero_le _, Nat.zero_le _, fun v η' hv => ?_⟩
  obtain ⟨rfl, rfl⟩ := hv
  refine ⟨fun c1 => ?_, fun c1 => ⟨0, 0, _, c_isOutside η' _ _ _, Nat.zero_le _, Nat.zero_le _, fun v η'' hv => ?_⟩⟩
  · have c1 := b01_ne0 c1
    rw [e1, e8, iN (by omega)] at c1
    simp at c1
    omega
  obtain ⟨rfl, rfl⟩ := hv
  refine ⟨fun c2 => ⟨_, h0, _, h0, _, _, _, hf, fun c3 => ?_, fun c3 => ⟨⟨rfl, rfl⟩, Nat.le_refl _, Nat.le_refl _⟩⟩, fun c2 => ?_⟩
  · rw [cb_lt, hn, e6] at c3
    omega
  · have c2 := b01_ne0 c2
    rw [e1, e8, iN (by omega)] at c2
    simp at c2
    omega
