/-! THE FACE: NEW PAPERS -/
/-- from 1 to N -/
def j1 (x : Int32) (N : Nat) : Bool := decide (1 ≤ x.toInt) && decide (x.toInt ≤ N)
theorem f_addPaper_x1 (X : Nat → Nat) (η : jj_H) (w k : Int32) (hj : (j1 w 4 && j1 k 4) = false) : jj_HX mX6_addPaper [.ref (X 0), .int w, .int k] η 1 6 (fun _ _ => False) (fun E => E = eA) := by
  have e1 : (nI 1).toInt = 1 := rfl
  have e4 : (nI 4).toInt = 4 := rfl
  refine jj_gx tok_X6_addPaper zok_X6 py_6 rfl 40 fun J => ?_
  refine ⟨0, 0, _, c_isOutside η _ _ _, Nat.zero_le _, Nat.zero_le _, fun v η' hv => ?_⟩
  obtain ⟨rfl, rfl⟩ := hv
  refine ⟨fun c1 => ⟨⟨rfl, rfl⟩, Nat.le_refl _, Nat.le_refl _⟩, fun c1 => ⟨0, 0, _, c_isOutside η' _ _ _, Nat.zero_le _, Nat.zero_le _, fun v η'' hv => ?_⟩⟩
  obtain ⟨rfl, rfl⟩ := hv
  refine ⟨fun c2 => ?_, fun c2 => ⟨⟨rfl, rfl⟩, Nat.le_refl _, Nat.le_refl _⟩⟩
  have c1 := b01_eq0 (Classical.not_not.mp c1)
  have c2 := b01_eq0 c2
  rw [e1, e4] at c1 c2
  simp [j1] at c1 c2 hj
  omega
theorem f_addPaper_x2 {X : Nat → Nat} {α : Nat → Nat → Nat} {τ : Nat → Nat} {σ : jj_S} {η : jj_H} (h : x_rep X α τ σ η) (w k : Nat) (hw : 1 ≤ w ∧ w ≤ 4) (hk : 1 ≤ k ∧ k ≤ 4) (hn : σ 12 1 = 4) : jj_HX mX6_addPaper [.ref (X 0), .int (nI w), .int (nI k)] η 1 6 (fun _ _ => False) (fun E => E = eS) := by
  have h0 := h.2.2.1
  obtain ⟨f, hf, hff⟩ := h.2.2.2.2.1
  have e1 : (nI 1).toInt = 1 := rfl
  have e4 : (nI 4).toInt = 4 := rfl
  refine jj_gx tok_X6_addPaper zok_X6 py_6 rfl 60 fun J => ?_
  refine ⟨0, 0, _, c_isOutside η _ _ _, Nat.zero_le _, Nat.zero_le _, fun v η' hv => ?_⟩
  obtain ⟨rfl, rfl⟩ := hv
  refine ⟨fun c1 => ?_, fun c1 => ⟨0, 0, _, c_isOutside η' _ _ _, Nat.zero_le _, Nat.zero_le _, fun v η'' hv => ?_⟩⟩
  · have c1 := b01_ne0 c1
    rw [e1, e4, iN (by omega)] at c1
    simp at c1
    omega
  obtain ⟨rfl, rfl⟩ := hv
  refine ⟨fun c2 => ⟨_, h0, _, h0, _, _, _, hf, fun c3 => ?_, fun c3 => ⟨⟨rfl, rfl⟩, Nat.le_refl _, Nat.le_refl _⟩⟩, fun c2 => ?_⟩
  · rw [cb_lt, hn, e4] at c3
    omega
  · have c2 := b01_ne0 c2
    rw [e1, e4, iN (by omega)] at c2
    simp at c2
    omega
