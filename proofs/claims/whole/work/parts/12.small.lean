/-! SMALL METHODS OF THE CLASS -/
theorem rz {b : Bool} (h : b = false) : some (Value.int 0) = some (Value.int (b01 b)) := by rw [h]; rfl
theorem ro {b : Bool} (h : b = true) : some (Value.int (nI 1)) = some (Value.int (b01 b)) := by rw [h]; rfl
theorem lt4 {d : Nat} (h : d < 4) : d = 0 ∨ d = 1 ∨ d = 2 ∨ d = 3 := by omega
theorem c_isSide (η : jj_H) (d : Int32) : jj_Ht mX6_isSide [.int d] η 0 0 (fun v η' => v = some (.int (b01 (jin d 4))) ∧ η' = η) := by
  have e4 : (nI 4).toInt = 4 := rfl
  refine jj_go tok_X6_isSide zok_X6 py_6 rfl 20 fun J => ?_
  refine ⟨fun c1 => ?_, fun c1 => ⟨fun c2 => ?_, fun c2 => ?_⟩⟩
  · rw [cb_lt, i0] at c1
    exact ⟨Or.inl rfl, ⟨rz (by simp [jin]; omega), rfl⟩, Nat.zero_le _, Nat.zero_le _⟩
  · rw [cb_ge, e4] at c2
    exact ⟨Or.inl rfl, ⟨rz (by simp [jin]; omega), rfl⟩, Nat.zero_le _, Nat.zero_le _⟩
  · rw [cb_lt, i0] at c1
    rw [cb_ge, e4] at c2
    exact ⟨Or.inr rfl, ⟨ro (by simp [jin]; omega), rfl⟩, Nat.zero_le _, Nat.zero_le _⟩
theorem c_opposite (η : jj_H) (d : Nat) (hd : d < 4) : jj_Ht mX6_opposite [.int (nI d)] η 0 0 (fun v η' => v = some (.int (nI ((d + 2) % 4))) ∧ η' = η) := by
  refine jj_go tok_X6_opposite zok_X6 py_6 rfl 20 fun J => ?_
  refine ⟨by decide, trivial, ⟨?_, rfl⟩, Nat.zero_le _, Nat.zero_le _⟩
  rcases lt4 hd with rfl | rfl | rfl | rfl <;> rfl
theorem c_rowStep (η : jj_H) (d : Nat) (hd : d < 4) : jj_Ht mX6_rowStep [.int (nI d)] η 0 0 (fun v η' => v = some (.int (jj_sv 0 d)) ∧ η' = η) := by
  refine jj_go tok_X6_rowStep zok_X6 py_6 rfl 20 fun J => ?_
  refine ⟨fun c1 => ⟨fun c2 => ?_, fun c2 => ?_⟩, fun c1 => ?_⟩
  · exact ⟨trivial, ⟨by rcases lt4 hd with rfl | rfl | rfl | rfl <;> first | rfl | exact absurd rfl c1 | exact absurd rfl c2, rfl⟩, Nat.zero_le _, Nat.zero_le _⟩
  · exact ⟨trivial, ⟨by rcases lt4 hd with rfl | rfl | rfl | rfl <;> first | rfl | exact absurd (by show ¬ (_ = _); decide) c1 | exact absurd (by show ¬ (_ = _); decide) c2, rfl⟩, Nat.zero_le _, Nat.zero_le _⟩
  · exact ⟨trivial, ⟨by rcases lt4 hd with rfl | rfl | rfl | rfl <;> first | rfl | exact absurd (by show ¬ (_ = _); decide) c1, rfl⟩, Nat.zero_le _, Nat.zero_le _⟩
theorem c_columnStep (η : jj_H) (d : Nat) (hd : d < 4) : jj_Ht mX6_columnStep [.int (nI d)] η 0 0 (fun v η' => v = some (.int (jj_sv 1 d)) ∧ η' = η) := by
  refine jj_go tok_X6_columnStep zok_X6 py_6 rfl 20 fun J => ?_
  refine ⟨fun c1 => ⟨fun c2 => ?_, fun c2 => ?_⟩, fun c1 => ?_⟩
  · exact ⟨trivial, ⟨by rcases lt4 hd with rfl | rfl | rfl | rfl <;> first | rfl | exact absurd rfl c1 | exact absurd rfl c2, rfl⟩, Nat.zero_le _, Nat.zero_le _⟩
  · exact ⟨trivial, ⟨by rcases lt4 hd with rfl | rfl | rfl | rfl <;> first | rfl | exact absurd (by show ¬ (_ = _); decide) c1 | exact absurd (by show ¬ (_ = _); decide) c2, rfl⟩, Nat.zero_le _, Nat.zero_le _⟩
  · exact ⟨trivial, ⟨by rcases lt4 hd with rfl | rfl | rfl | rfl <;> first | rfl | exact absurd (by show ¬ (_ = _); decide) c1, rfl⟩, Nat.zero_le _, Nat.zero_le _⟩
theorem c_remainder (η : jj_H) (a b : Nat) (ha : a < 2147483648) (h0 : 0 < b) (hb : b < 2147483648) : jj_Ht mX6_remainder [.int (nI a), .int (nI b)] η 0 0 (fun v η' => v = some (.int (nI (a % b))) ∧ η' = η) := by
  refine jj_go tok_X6_remainder zok_X6 py_6 rfl 20 fun J => ?_
  refine ⟨fun c1 => ?_, fun c1 => ⟨?_, trivial, ⟨?_, rfl⟩, Nat.zero_le _, Nat.zero_le _⟩⟩
  · rw [cb_le, i0, iN hb] at c1
    omega
  · exact nI_ne0 h0 (by omega)
  · rw [pk_rem (by omega) h0 (by omega)]
theorem c_plateN_some {X : Nat → Nat} {α : Nat → Nat → Nat} {τ : Nat → Nat} {σ : jj_S} {η : jj_H} (h : x_rep X α τ σ η) (k : Nat) (hk : k < σ 12 0) : jj_Ht mX6_plateNumbered [.ref (X 0), .int (nI k)] η 0 0 (fun v η' => v = some (.ref (α 0 k)) ∧ η' = η) := by
  obtain ⟨hok, -, h0, h1, h2, h3, h4, -⟩ := h
  obtain ⟨⟨g0, g1, g2, g3⟩, -⟩ := hok
  obtain ⟨f, hf, hff⟩ := h1
  have e9 : (nI 6).toInt = 6 := rfl
  have hk31 : k < 2147483648 := by omega
  refine jj_go tok_X6_plateNumbered zok_X6 py_6 rfl 20 fun J => ?_
  refine ⟨fun c1 => ?_, fun c1 => ⟨_, h0, _, _, _, hf, fun c2 => ?_, fun c2 => ⟨_, h0, _, _, _, k, some (α 0 k), hf, rfl, by omega, by rw [hff k (by omega), if_pos hk], ?_⟩⟩⟩
  · rw [cb_lt, i0, iN hk31] at c1
    omega
  · rw [cb_ge, e9, iN hk31] at c2
    omega
  · exact ⟨⟨rfl, rfl⟩, Nat.zero_le _, Nat.zero_le _⟩
theorem c_plateN_none {X : Nat → Nat} {α : Nat → Nat → Nat} {τ : Nat → Nat} {σ : jj_S} {η : jj_H} (h : x_rep X α τ σ η) (i : Int32) (hi : jin i (σ 12 0) = false) : jj_Ht mX6_plateNumbered [.ref (X 0), .int i] η 0 0 (fun v η' => v = some .null ∧ η' = η) := by
  obtain ⟨hok, -, h0, h1, h2, h3, h4, -⟩ := h
  obtain ⟨⟨g0, g1, g2, g3⟩, -⟩ := hok
  obtain ⟨f, hf, hff⟩ := h1
  have e9 : (nI 6).toInt = 6 := rfl
  simp only [jin, Bool.and_eq_false_iff, decide_eq_false_iff_not] at hi
  refine jj_go tok_X6_plateNumbered zok_X6 py_6 rfl 20 fun J => ?_
  refine ⟨fun c1 => ?_, fun c1 => ⟨_, h0, _, _, _, hf, fun c2 => ?_, fun c2 => ?_⟩⟩
  · exact ⟨⟨rfl, rfl⟩, Nat.zero_le _, Nat.zero_le _⟩
  · exact ⟨⟨rfl, rfl⟩, Nat.zero_le _, Nat.zero_le _⟩
  · rw [cb_lt, i0] at c1
    rw [cb_ge, e9] at c2
    obtain ⟨k, rfl, hk, hk31⟩ := jin_of (x := i) (N := 6) (by simp [jin]; omega)
    rw [iN hk31] at hi
    refine ⟨_, h0, _, _, _, k, none, hf, rfl, hk, by rw [hff k hk, if_neg (by omega)], ?_⟩
    exact ⟨⟨rfl, rfl⟩, Nat.zero_le _, Nat.zero_le _⟩
theorem c_paperN_some {X : Nat → Nat} {α : Nat → Nat → Nat} {τ : Nat → Nat} {σ : jj_S} {η : jj_H} (h : x_rep X α τ σ η) (k : Nat) (hk : k < σ 12 1) : jj_Ht mX6_paperNumbered [.ref (X 0), .int (nI k)] η 0 0 (fun v η' => v = some (.ref (α 4 k)) ∧ η' = η) := by
  obtain ⟨hok, -, h0, h1, h2, h3, h4, -⟩ := h
  obtain ⟨⟨g0, g1, g2, g3⟩, -⟩ := hok
  obtain ⟨f, hf, hff⟩ := h2
  have e9 : (nI 4).toInt = 4 := rfl
  have hk31 : k < 2147483648 := by omega
  refine jj_go tok_X6_paperNumbered zok_X6 py_6 rfl 20 fun J => ?_
  refine ⟨fun c1 => ?_, fun c1 => ⟨_, h0, _, _, _, hf, fun c2 => ?_, fun c2 => ⟨_, h0, _, _, _, k, some (α 4 k), hf, rfl, by omega, by rw [hff k (by omega), if_pos hk], ?_⟩⟩⟩
  · rw [cb_lt, i0, iN hk31] at c1
    omega
  · rw [cb_ge, e9, iN hk31] at c2
    omega
  · exact ⟨⟨rfl, rfl⟩, Nat.zero_le _, Nat.zero_le _⟩
theorem c_paperN_none {X : Nat → Nat} {α : Nat → Nat → Nat} {τ : Nat → Nat} {σ : jj_S} {η : jj_H} (h : x_rep X α τ σ η) (i : Int32) (hi : jin i (σ 12 1) = false) : jj_Ht mX6_paperNumbered [.ref (X 0), .int i] η 0 0 (fun v η' => v = some .null ∧ η' = η) := by
  obtain ⟨hok, -, h0, h1, h2, h3, h4, -⟩ := h
  obtain ⟨⟨g0, g1, g2, g3⟩, -⟩ := hok
  obtain ⟨f, hf, hff⟩ := h2
  have e9 : (nI 4).toInt = 4 := rfl
  simp only [jin, Bool.and_eq_false_iff, decide_eq_false_iff_not] at hi
  refine jj_go tok_X6_paperNumbered zok_X6 py_6 rfl 20 fun J => ?_
  refine ⟨fun c1 => ?_, fun c1 => ⟨_, h0, _, _, _, hf, fun c2 => ?_, fun c2 => ?_⟩⟩
  · exact ⟨⟨rfl, rfl⟩, Nat.zero_le _, Nat.zero_le _⟩
  · exact ⟨⟨rfl, rfl⟩, Nat.zero_le _, Nat.zero_le _⟩
  · rw [cb_lt, i0] at c1
    rw [cb_ge, e9] at c2
    obtain ⟨k, rfl, hk, hk31⟩ := jin_of (x := i) (N := 4) (by simp [jin]; omega)
    rw [iN hk31] at hi
    refine ⟨_, h0, _, _, _, k, none, hf, rfl, hk, by rw [hff k hk, if_neg (by omega)], ?_⟩
    exact ⟨⟨rfl, rfl⟩, Nat.zero_le _, Nat.zero_le _⟩
theorem c_sheetN_some {X : Nat → Nat} {α : Nat → Nat → Nat} {τ : Nat → Nat} {σ : jj_S} {η : jj_H} (h : x_rep X α τ σ η) (k : Nat) (hk : k < σ 12 2) : jj_Ht mX6_sheetNumbered [.ref (X 0), .int (nI k)] η 0 0 (fun v η' => v = some (.ref (α 5 k)) ∧ η' = η) := by
  obtain ⟨hok, -, h0, h1, h2, h3, h4, -⟩ := h
  obtain ⟨⟨g0, g1, g2, g3⟩, -⟩ := hok
  obtain ⟨f, hf, hff⟩ := h3
  have e9 : (nI 10).toInt = 10 := rfl
  have hk31 : k < 2147483648 := by omega
  refine jj_go tok_X6_sheetNumbered zok_X6 py_6 rfl 20 fun J => ?_
  refine ⟨fun c1 => ?_, fun c1 => ⟨_, h0, _, _, _, hf, fun c2 => ?_, fun c2 => ⟨_, h0, _, _, _, k, some (α 5 k), hf, rfl, by omega, by rw [hff k (by omega), if_pos hk], ?_⟩⟩⟩
  · rw [cb_lt, i0, iN hk31] at c1
    omega
  · rw [cb_ge, e9, iN hk31] at c2
    omega
  · exact ⟨⟨rfl, rfl⟩, Nat.zero_le _, Nat.zero_le _⟩
theorem c_sheetN_none {X : Nat → Nat} {α : Nat → Nat → Nat} {τ : Nat → Nat} {σ : jj_S} {η : jj_H} (h : x_rep X α τ σ η) (i : Int32) (hi : jin i (σ 12 2) = false) : jj_Ht mX6_sheetNumbered [.ref (X 0), .int i] η 0 0 (fun v η' => v = some .null ∧ η' = η) := by
  obtain ⟨hok, -, h0, h1, h2, h3, h4, -⟩ := h
  obtain ⟨⟨g0, g1, g2, g3⟩, -⟩ := hok
  obtain ⟨f, hf, hff⟩ := h3
  have e9 : (nI 10).toInt = 10 := rfl
  simp only [jin, Bool.and_eq_false_iff, decide_eq_false_iff_not] at hi
  refine jj_go tok_X6_sheetNumbered zok_X6 py_6 rfl 20 fun J => ?_
  refine ⟨fun c1 => ?_, fun c1 => ⟨_, h0, _, _, _, hf, fun c2 => ?_, fun c2 => ?_⟩⟩
  · exact ⟨⟨rfl, rfl⟩, Nat.zero_le _, Nat.zero_le _⟩
  · exact ⟨⟨rfl, rfl⟩, Nat.zero_le _, Nat.zero_le _⟩
  · rw [cb_lt, i0] at c1
    rw [cb_ge, e9] at c2
    obtain ⟨k, rfl, hk, hk31⟩ := jin_of (x := i) (N := 10) (by simp [jin]; omega)
    rw [iN hk31] at hi
    refine ⟨_, h0, _, _, _, k, none, hf, rfl, hk, by rw [hff k hk, if_neg (by omega)], ?_⟩
    exact ⟨⟨rfl, rfl⟩, Nat.zero_le _, Nat.zero_le _⟩
theorem c_stampN_some {X : Nat → Nat} {α : Nat → Nat → Nat} {τ : Nat → Nat} {σ : jj_S} {η : jj_H} (h : x_rep X α τ σ η) (k : Nat) (hk : k < σ 12 3) : jj_Ht mX6_stampNumbered [.ref (X 0), .int (nI k)] η 0 0 (fun v η' => v = some (.ref (α 6 k)) ∧ η' = η) := by
  obtain ⟨hok, -, h0, h1, h2, h3, h4, -⟩ := h
  obtain ⟨⟨g0, g1, g2, g3⟩, -⟩ := hok
  obtain ⟨f, hf, hff⟩ := h4
  have e9 : (nI 40).toInt = 40 := rfl
  have hk31 : k < 2147483648 := by omega
  refine jj_go tok_X6_stampNumbered zok_X6 py_6 rfl 20 fun J => ?_
  refine ⟨fun c1 => ?_, fun c1 => ⟨_, h0, _, _, _, hf, fun c2 => ?_, fun c2 => ⟨_, h0, _, _, _, k, some (α 6 k), hf, rfl, by omega, by rw [hff k (by omega), if_pos hk], ?_⟩⟩⟩
  · rw [cb_lt, i0, iN hk31] at c1
    omega
  · rw [cb_ge, e9, iN hk31] at c2
    omega
  · exact ⟨⟨rfl, rfl⟩, Nat.zero_le _, Nat.zero_le _⟩
theorem c_stampN_none {X : Nat → Nat} {α : Nat → Nat → Nat} {τ : Nat → Nat} {σ : jj_S} {η : jj_H} (h : x_rep X α τ σ η) (i : Int32) (hi : jin i (σ 12 3) = false) : jj_Ht mX6_stampNumbered [.ref (X 0), .int i] η 0 0 (fun v η' => v = some .null ∧ η' = η) := by
  obtain ⟨hok, -, h0, h1, h2, h3, h4, -⟩ := h
  obtain ⟨⟨g0, g1, g2, g3⟩, -⟩ := hok
  obtain ⟨f, hf, hff⟩ := h4
  have e9 : (nI 40).toInt = 40 := rfl
  simp only [jin, Bool.and_eq_false_iff, decide_eq_false_iff_not] at hi
  refine jj_go tok_X6_stampNumbered zok_X6 py_6 rfl 20 fun J => ?_
  refine ⟨fun c1 => ?_, fun c1 => ⟨_, h0, _, _, _, hf, fun c2 => ?_, fun c2 => ?_⟩⟩
  · exact ⟨⟨rfl, rfl⟩, Nat.zero_le _, Nat.zero_le _⟩
  · exact ⟨⟨rfl, rfl⟩, Nat.zero_le _, Nat.zero_le _⟩
  · rw [cb_lt, i0] at c1
    rw [cb_ge, e9] at c2
    obtain ⟨k, rfl, hk, hk31⟩ := jin_of (x := i) (N := 40) (by simp [jin]; omega)
    rw [iN hk31] at hi
    refine ⟨_, h0, _, _, _, k, none, hf, rfl, hk, by rw [hff k hk, if_neg (by omega)], ?_⟩
    exact ⟨⟨rfl, rfl⟩, Nat.zero_le _, Nat.zero_le _⟩
