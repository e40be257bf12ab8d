theorem lN_z {t : Nat} (ht : t < 2 ^ 64) (h : lN t = 0) : t = 0 := by
  have e := congrArg (fun x : Int64 => x.toBitVec.toNat) h
  have e : (lN t).toBitVec.toNat = 0 := e
  rw [wb_tn ht] at e
  exact e
theorem f_setSheet_x3 {X : Nat → Nat} {α : Nat → Nat → Nat} {τ : Nat → Nat} {σ : jj_S} {η : jj_H} (h : x_rep X α τ σ η) (s r c a d k : Nat) (hs : s < σ 12 2) (hk : k < σ 12 3) (hk2 : σ 7 k = s) (hr : r ≤ 3) (hc : c ≤ 3) (ha : 5 ≤ a ∧ a ≤ 16) (hd : 5 ≤ d ∧ d ≤ 16) : jj_HX mX6_setSheet [.ref (X 0), .int (nI s), .int (nI r), .int (nI c), .int (nI a), .int (nI d)] η 1 6 (fun _ _ => False) (fun E => E = eS) := by
  have h0 := h.2.2.1
  obtain ⟨t, t1, t2, t3, t4⟩ := h.sheet hs
  have tz : t ≠ 0 := fun z => t4.mp z k hk hk2
  have e3 : (nI 3).toInt = 3 := rfl
  have e5 : (nI 5).toInt = 5 := rfl
  have e16 : (nI 16).toInt = 16 := rfl
  refine jj_gx tok_X6_setSheet zok_X6 py_6 rfl 120 fun J => ?_
  refine ⟨_, h0, 0, 0, _, c_sheetN_some h s hs, Nat.zero_le _, Nat.zero_le _, fun v η' hv => ?_⟩
  obtain ⟨rfl, rfl⟩ := hv
  refine ⟨0, 0, _, c_isOutside η' _ _ _, Nat.zero_le _, Nat.zero_le _, fun v η'' hv => ?_⟩
  obtain ⟨rfl, rfl⟩ := hv
  refine ⟨fun c1 => ?_, fun c1 => ⟨0, 0, _, c_isOutside η'' _ _ _, Nat.zero_le _, Nat.zero_le _, fun v η' hv => ?_⟩⟩
  · have c1 := b01_ne0 c1
    rw [i0, e3, iN (by omega)] at c1
    simp at c1
    omega
  obtain ⟨rfl, rfl⟩ := hv
  refine ⟨fun c1 => ?_, fun c1 => ⟨0, 0, _, c_isOutside η' _ _ _, Nat.zero_le _, Nat.zero_le _, fun v η'' hv => ?_⟩⟩
  · have c1 := b01_ne0 c1
    rw [i0, e3, iN (by omega)] at c1
    simp at c1
    omega
  obtain ⟨rfl, rfl⟩ := hv
  refine ⟨fun c1 => ?_, fun c1 => ⟨0, 0, _, c_isOutside η'' _ _ _, Nat.zero_le _, Nat.zero_le _, fun v η' hv => ?_⟩⟩
  · have c1 := b01_ne0 c1
    rw [e5, e16, iN (by omega)] at c1
    simp at c1
    omega
  obtain ⟨rfl, rfl⟩ := hv
  refine ⟨fun c1 => ⟨_, t2, fun c2 => ?_, fun c2 => ⟨⟨rfl, rfl⟩, Nat.le_refl _, Nat.le_refl _⟩⟩, fun c1 => ?_⟩
  · exact absurd (lN_z t1 ((lg0 _ _).mp c2)) tz
  · have c1 := b01_ne0 c1
    rw [e5, e16, iN (by omega)] at c1
    simp at c1
    omega
