/-! THE STATIC HELPERS -/
theorem c_placeAt (η : jj_H) (r c : Int32) : jj_Ht mX6_placeAt [.int r, .int c] η 0 0 (fun v η' => v = some (.int (r * nI 8 + c)) ∧ η' = η) := by
  refine jj_go tok_X6_placeAt zok_X6 py_6 rfl 10 fun J => ?_
  exact ⟨trivial, ⟨rfl, rfl⟩, Nat.zero_le _, Nat.zero_le _⟩
theorem c_isOutside (η : jj_H) (a l h : Int32) : jj_Ht mX6_isOutside [.int a, .int l, .int h] η 0 0 (fun v η' => v = some (.int (b01 (decide (a.toInt < l.toInt) || decide (h.toInt < a.toInt)))) ∧ η' = η) := by
  refine jj_go tok_X6_isOutside zok_X6 py_6 rfl 10 fun J => ?_
  refine ⟨fun c1 => ?_, fun c1 => ⟨fun c2 => ?_, fun c2 => ?_⟩⟩
  · rw [cb_lt] at c1
    exact ⟨Or.inr rfl, ⟨by rw [b01_1 (by simp [c1])]; rfl, rfl⟩, Nat.zero_le _, Nat.zero_le _⟩
  · rw [cb_lt] at c1
    rw [cb_le] at c2
    exact ⟨Or.inl rfl, ⟨by rw [b01_0 (by simp; omega)], rfl⟩, Nat.zero_le _, Nat.zero_le _⟩
  · rw [cb_le] at c2
    exact ⟨Or.inr rfl, ⟨by rw [b01_1 (by simp; omega)]; rfl, rfl⟩, Nat.zero_le _, Nat.zero_le _⟩
theorem c_hasPlace0 (η : jj_H) (r c : Int32) : jj_Ht mX0_hasPlace [.int r, .int c] η 0 0 (fun v η' => v = some (.int (b01 (jin r 8 && jin c 8))) ∧ η' = η) := by
  have e8 : (nI 8).toInt = 8 := rfl
  refine jj_go tok_X0_hasPlace zok_X0 py_0 rfl 20 fun J => ?_
  refine ⟨fun c1 => ?_, fun c1 => ⟨fun c2 => ?_, fun c2 => ⟨fun c3 => ?_, fun c3 => ⟨fun c4 => ?_, fun c4 => ?_⟩⟩⟩⟩ <;> (try rw [cb_lt, i0] at c1) <;> (try rw [cb_ge, e8] at c2) <;> (try rw [cb_lt, i0] at c3) <;> (try rw [cb_ge, e8] at c4)
  · exact ⟨Or.inl rfl, ⟨by rw [b01_0 (by simp [jin]; omega)], rfl⟩, Nat.zero_le _, Nat.zero_le _⟩
  · exact ⟨Or.inl rfl, ⟨by rw [b01_0 (by simp [jin]; omega)], rfl⟩, Nat.zero_le _, Nat.zero_le _⟩
  · exact ⟨Or.inl rfl, ⟨by rw [b01_0 (by simp [jin]; omega)], rfl⟩, Nat.zero_le _, Nat.zero_le _⟩
  · exact ⟨Or.inl rfl, ⟨by rw [b01_0 (by simp [jin]; omega)], rfl⟩, Nat.zero_le _, Nat.zero_le _⟩
  · exact ⟨Or.inr rfl, ⟨by rw [b01_1 (by simp [jin]; omega)]; rfl, rfl⟩, Nat.zero_le _, Nat.zero_le _⟩
theorem c_hasPlace3 (η : jj_H) (a : Nat) (R C r c : Int32) (f2 f3 f4 : Value) (h : η a = some (.inr (3, [.int R, .int C, f2, f3, f4]))) : jj_Ht mX3_hasPlace [.ref a, .int r, .int c] η 0 0 (fun v η' => v = some (.int (b01 (decide (0 ≤ r.toInt ∧ r.toInt < R.toInt ∧ 0 ≤ c.toInt ∧ c.toInt < C.toInt)))) ∧ η' = η) := by
  refine jj_go tok_X3_hasPlace zok_X3 py_3 rfl 20 fun J => ?_
  refine ⟨fun c1 => ?_, fun c1 => ⟨_, h, ?_⟩⟩
  · rw [cb_lt, i0] at c1
    exact ⟨Or.inl rfl, ⟨by rw [b01_0 (by simp; omega)], rfl⟩, Nat.zero_le _, Nat.zero_le _⟩
  rw [cb_lt, i0] at c1
  refine ⟨fun c2 => ?_, fun c2 => ⟨fun c3 => ?_, fun c3 => ⟨_, h, fun c4 => ?_, fun c4 => ?_⟩⟩⟩
  · rw [cb_ge] at c2
    exact ⟨Or.inl rfl, ⟨by rw [b01_0 (by simp; omega)], rfl⟩, Nat.zero_le _, Nat.zero_le _⟩
  · rw [cb_lt, i0] at c3
    exact ⟨Or.inl rfl, ⟨by rw [b01_0 (by simp; omega)], rfl⟩, Nat.zero_le _, Nat.zero_le _⟩
  · rw [cb_ge] at c4
    exact ⟨Or.inl rfl, ⟨by rw [b01_0 (by simp; omega)], rfl⟩, Nat.zero_le _, Nat.zero_le _⟩
  · rw [cb_ge] at c2 c4
    rw [cb_lt, i0] at c3
    exact ⟨Or.inr rfl, ⟨by rw [b01_1 (by simp; omega)]; rfl, rfl⟩, Nat.zero_le _, Nat.zero_le _⟩
