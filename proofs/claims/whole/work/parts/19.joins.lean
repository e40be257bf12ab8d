/-! WHETHER STAMPS FIT; WHAT A STAMP TELLS -/
/-- all that is read of the stamp k -/
theorem x_rep.kk {X : Nat → Nat} {α : Nat → Nat → Nat} {τ : Nat → Nat} {σ : jj_S} {η : jj_H} (h : x_rep X α τ σ η) {k : Nat} (hk : k < σ 12 3) :
    η (α 6 k) = some (x_o 5 [.int (nI k), .ref (α 5 (σ 7 k)), .int (nI (σ 8 k)), .int (nI (σ 9 k)), .int (nI (s_mr σ k)), .int (nI (s_mc σ k)), .ref (α 7 k), .int (mI (σ 11 k))]) ∧
    (∃ f, η (α 7 k) = some (x_i 4 f) ∧ ∀ d, d < 4 → f d = nI (σ 10 (4 * k + d))) ∧
    (∃ t, t < 2 ^ 64 ∧ η (α 5 (σ 7 k)) = some (x_o 4 [.ref (α 0 (s_pl σ k)), .ref (α 4 (s_pa σ k)), .int (nI (σ 6 (8 * σ 7 k + 2))), .int (nI (σ 6 (8 * σ 7 k + 3))), .int (nI (σ 6 (8 * σ 7 k + 4))), .int (nI (σ 6 (8 * σ 7 k + 5))), .int (nI (σ 6 (8 * σ 7 k + 6))), .int (nI (σ 6 (8 * σ 7 k + 7))), .long (lN t)])) ∧
    η (α 4 (s_pa σ k)) = some (x_o 2 [.int (nI (s_pa σ k)), .int (nI (σ 4 (s_pa σ k))), .int (nI (σ 5 (s_pa σ k)))]) := by
  obtain ⟨b1, b2, b3, b4, b5, b6⟩ := h.1.k hk
  obtain ⟨t, t1, t2, -⟩ := h.sheet b1
  exact ⟨(h.stamp hk).1, (h.stamp hk).2, ⟨t, t1, t2⟩, h.paper b3⟩
/-- the small numbers of the stamp k -/
theorem s_ok.kn {σ : jj_S} (h : s_ok σ) {k : Nat} (hk : k < σ 12 3) : k < 40 ∧ s_pa σ k < 4 ∧ (5 ≤ σ 6 (8 * σ 7 k + 6) ∧ σ 6 (8 * σ 7 k + 6) ≤ 16) ∧ (5 ≤ σ 6 (8 * σ 7 k + 7) ∧ σ 6 (8 * σ 7 k + 7) ≤ 16) ∧ (1 ≤ σ 4 (s_pa σ k) ∧ σ 4 (s_pa σ k) ≤ 4) ∧ (1 ≤ σ 5 (s_pa σ k) ∧ σ 5 (s_pa σ k) ≤ 4) ∧ s_mr σ k < σ 5 (s_pa σ k) ∧ s_mc σ k < σ 4 (s_pa σ k) := by
  obtain ⟨b1, b2, b3, b4, b5, b6⟩ := h.k hk
  obtain ⟨⟨g0, g1, g2, g3⟩, -, h3, h4, -⟩ := h
  obtain ⟨c1, c2, c3, c4, c5, c6, c7, c8, c9⟩ := h4 _ b1
  obtain ⟨e1, e2, e3, e4⟩ := h3 _ b3
  exact ⟨by omega, by omega, c7, ⟨c8, c9⟩, ⟨e1, e2⟩, ⟨e3, e4⟩, Nat.mod_lt _ (by omega), Nat.mod_lt _ (by omega)⟩
theorem c_hasPaper {X : Nat → Nat} {α : Nat → Nat → Nat} {τ : Nat → Nat} {σ : jj_S} {η : jj_H} (h : x_rep X α τ σ η) (k j : Nat) (hk : k < σ 12 3) (hj : j < σ 12 3) : jj_Ht mX5_hasPaperAndGaugesOf [.ref (α 6 k), .ref (α 6 j)] η 0 0 (fun v η' => v = some (.int (b01 (decide (s_pa σ k = s_pa σ j) && decide (σ 6 (8 * σ 7 k + 6) = σ 6 (8 * σ 7 j + 6)) && decide (σ 6 (8 * σ 7 k + 7) = σ 6 (8 * σ 7 j + 7))))) ∧ η' = η) := by
  obtain ⟨k1, -, ⟨tk, -, k2⟩, k3⟩ := h.kk hk
  obtain ⟨j1, -, ⟨tj, -, j2⟩, j3⟩ := h.kk hj
  obtain ⟨a1, a2, a3, a4, -⟩ := h.1.kn hk
  obtain ⟨b1, b2, b3, b4, -⟩ := h.1.kn hj
  refine jj_go tok_X5_hasPaperAndGaugesOf zok_X5 py_5 rfl 60 fun J => ?_
  refine ⟨_, k1, _, k2, _, k3, _, j1, _, j2, _, j3, fun c1 => ?_, fun c1 => ⟨_, k1, _, k2, _, j1, _, j2, fun c2 => ?_, fun c2 => ⟨_, k1, _, k2, _, j1, _, j2, fun c3 => ?_, fun c3 => ?_⟩⟩⟩
  · rw [cb_ne, iN (by omega), iN (by omega)] at c1
    exact ⟨Or.inl rfl, ⟨rz (by simp; omega), rfl⟩, Nat.zero_le _, Nat.zero_le _⟩
  · rw [cb_ne, iN (by omega), iN (by omega)] at c2
    exact ⟨Or.inl rfl, ⟨rz (by simp; omega), rfl⟩, Nat.zero_le _, Nat.zero_le _⟩
  · rw [cb_ne, iN (by omega), iN (by omega)] at c3
    exact ⟨Or.inl rfl, ⟨rz (by simp; omega), rfl⟩, Nat.zero_le _, Nat.zero_le _⟩
  · rw [cb_ne, iN (by omega), iN (by omega)] at c1 c2 c3
    exact ⟨Or.inr rfl, ⟨ro (by simp; omega), rfl⟩, Nat.zero_le _, Nat.zero_le _⟩
/-- one step on in a pattern of n, from m, in the direction d: up and down (b = 0), or across (b = 1) -/
def s_nx (n m b d : Nat) : Nat := (match b, d with
  | 0, 0 => m + n - 1
  | 0, 2 => m + n + 1
  | 1, 3 => m + n - 1
  | 1, 1 => m + n + 1
  | _, _ => m + n)
theorem i_nx {n m b d : Nat} (hn : 1 ≤ n) (hb : b < 2) (hd : d < 4) : nI m + jj_sv b d + nI n = nI (s_nx n m b d) := by
  have e1 : nI m + -1 + nI n = nI (m + n - 1) := by
    obtain ⟨n', rfl⟩ : ∃ n', n = n' + 1 := ⟨n - 1, by omega⟩
    rw [Int32.add_assoc, Int32.add_comm (-1), ← Int32.add_assoc, nI_add, ← Nat.add_assoc, pk_m1]
    rfl
  have e2 : nI m + 1 + nI n = nI (m + n + 1) := by
    rw [nI_1, nI_add]
    congr 1
    omega
  have e3 : nI m + 0 + nI n = nI (m + n) := by
    rw [a_z, nI_add]
  rcases (show b = 0 ∨ b = 1 by omega) with rfl | rfl
  · rcases lt4 hd with rfl | rfl | rfl | rfl
    · exact e1
    · exact e3
    · exact e2
    · exact e3
  · rcases lt4 hd with rfl | rfl | rfl | rfl
    · exact e3
    · exact e2
    · exact e3
    · exact e1
theorem s_nx_lt {n m b d : Nat} (hn : n ≤ 4) (hm : m < n) : s_nx n m b d < 2147483648 := by
  unfold s_nx
  split <;> omega
/-- the mark of j is beside that of k in the direction d -/
def s_mk (σ : jj_S) (k d j : Nat) : Bool := decide (s_mr σ j = s_nx (σ 5 (s_pa σ k)) (s_mr σ k) 0 d % σ 5 (s_pa σ k)) && decide (s_mc σ j = s_nx (σ 4 (s_pa σ k)) (s_mc σ k) 1 d % σ 4 (s_pa σ k))
theorem c_hasMark {X : Nat → Nat} {α : Nat → Nat → Nat} {τ : Nat → Nat} {σ : jj_S} {η : jj_H} (h : x_rep X α τ σ η) (k j d : Nat) (hk : k < σ 12 3) (hj : j < σ 12 3) (hd : d < 4) : jj_Ht mX5_hasMarkBeside [.ref (α 6 k), .int (nI d), .ref (α 6 j)] η 0 0 (fun v η' => v = some (.int (b01 (s_mk σ k d j))) ∧ η' = η) := by
  obtain ⟨k1, -, ⟨tk, -, k2⟩, k3⟩ := h.kk hk
  obtain ⟨j1, -, ⟨tj, -, j2⟩, j3⟩ := h.kk hj
  obtain ⟨a1, a2, a3, a4, a5, a6, a7, a8⟩ := h.1.kn hk
  obtain ⟨b1, b2, b3, b4, b5, b6, b7, b8⟩ := h.1.kn hj
  have l1 := s_nx_lt (b := 0) (d := d) a6.2 a7
  have l2 := s_nx_lt (b := 1) (d := d) a5.2 a8
  have m1 := Nat.mod_lt (s_nx (σ 5 (s_pa σ k)) (s_mr σ k) 0 d) (show 0 < σ 5 (s_pa σ k) by omega)
  have m2 := Nat.mod_lt (s_nx (σ 4 (s_pa σ k)) (s_mc σ k) 1 d) (show 0 < σ 4 (s_pa σ k) by omega)
  refine jj_go tok_X5_hasMarkBeside zok_X5 py_5 rfl 80 fun J => ?_
  refine ⟨_, k1, _, k2, _, k3, _, k1, _, k2, _, k3, _, j1, _, k1, 0, 0, _, c_rowStep η d hd, Nat.le_refl _, Nat.le_refl _, fun v η' hv => ?_⟩
  obtain ⟨rfl, rfl⟩ := hv
  refine ⟨0, 0, _, (i_nx (m := s_mr σ k) a6.1 (show 0 < 2 by omega) hd).symm ▸ c_remainder η' _ _ l1 a6.1 (by omega), Nat.le_refl _, Nat.le_refl _, fun v η'' hv => ?_⟩
  obtain ⟨rfl, rfl⟩ := hv
  refine ⟨fun c1 => ?_, fun c1 => ?_⟩
  · rw [cb_ne, iN (by omega), iN (by omega)] at c1
    exact ⟨Or.inl rfl, ⟨rz (by unfold s_mk; simp; omega), rfl⟩, Nat.zero_le _, Nat.zero_le _⟩
  rw [cb_ne, iN (by omega), iN (by omega)] at c1
  refine ⟨_, j1, _, k1, 0, 0, _, c_columnStep η'' d hd, Nat.le_refl _, Nat.le_refl _, fun v η' hv => ?_⟩
  obtain ⟨rfl, rfl⟩ := hv
  refine ⟨0, 0, _, (i_nx (m := s_mc σ k) a5.1 (show 1 < 2 by omega) hd).symm ▸ c_remainder η' _ _ l2 a5.1 (by omega), Nat.le_refl _, Nat.le_refl _, fun v η'' hv => ?_⟩
  obtain ⟨rfl, rfl⟩ := hv
  refine ⟨fun c2 => ?_, fun c2 => ?_⟩
  · rw [cb_ne, iN (by omega), iN (by omega)] at c2
    exact ⟨Or.inl rfl, ⟨rz (by unfold s_mk; simp; omega), rfl⟩, Nat.zero_le _, Nat.zero_le _⟩
  · rw [cb_ne, iN (by omega), iN (by omega)] at c2
    exact ⟨Or.inr rfl, ⟨ro (by unfold s_mk; simp; omega), rfl⟩, Nat.zero_le _, Nat.zero_le _⟩
/-- b fits at the side d of a -/
def s_fit (σ : jj_S) (a d b : Nat) : Bool := decide (σ 10 (4 * a + d) ≠ 0) && decide (σ 10 (4 * a + d) ≠ s_all σ a d) && decide (σ 10 (4 * b + (d + 2) % 4) = s_all σ a d - σ 10 (4 * a + d)) && decide (a ≠ b) && (decide (s_pa σ a = s_pa σ b) && decide (σ 6 (8 * σ 7 a + 6) = σ 6 (8 * σ 7 b + 6)) && decide (σ 6 (8 * σ 7 a + 7) = σ 6 (8 * σ 7 b + 7))) && s_mk σ a d b
theorem s_al_all (σ : jj_S) (k d : Nat) : s_al (σ 6 (8 * σ 7 k + 6)) (σ 6 (8 * σ 7 k + 7)) d = s_all σ k d := by
  unfold s_al s_all s_g
  rcases (show d % 2 = 0 ∨ d % 2 = 1 by omega) with e | e <;> rw [e] <;> rfl
theorem c_joins {X : Nat → Nat} {α : Nat → Nat → Nat} {τ : Nat → Nat} {σ : jj_S} {η : jj_H} (h : x_rep X α τ σ η) (k j d : Nat) (hk : k < σ 12 3) (hj : j < σ 12 3) (hd : d < 4) : jj_Ht mX5_joins [.ref (α 6 k), .int (nI d), .ref (α 6 j)] η 0 0 (fun v η' => v = some (.int (b01 (s_fit σ k d j))) ∧ η' = η) := by
  obtain ⟨k1, ⟨fk, kf, kff⟩, ⟨tk, -, k2⟩, k3⟩ := h.kk hk
  obtain ⟨j1, ⟨fj, jf, jff⟩, ⟨tj, -, j2⟩, j3⟩ := h.kk hj
  obtain ⟨a1, a2, a3, a4, -⟩ := h.1.kn hk
  obtain ⟨b1, -⟩ := h.1.kn hj
  have al := s_all_le h.1 hk d
  have tl := s_teeth_le h.1 hk hd
  have tj := s_teeth_le h.1 hj (show (d + 2) % 4 < 4 by omega)
  have aj := s_all_le h.1 hj ((d + 2) % 4)
  refine jj_go tok_X5_joins zok_X5 py_5 rfl 90 fun J => ?_
  refine ⟨_, k1, _, k2, 0, 0, _, c_allTeeth η _ _ _ d _ _ _ _ _ _ _ k2 (by omega) (by omega) hd, Nat.le_refl _, Nat.le_refl _, fun v η' hv => ?_⟩
  obtain ⟨rfl, rfl⟩ := hv
  rw [s_al_all]
  refine ⟨_, k1, 0, 0, _, c_teethAt η' _ _ d fk _ _ _ _ _ _ _ k1 kf hd, Nat.le_refl _, Nat.le_refl _, fun v η'' hv => ?_⟩
  obtain ⟨rfl, rfl⟩ := hv
  rw [kff d hd]
  refine ⟨fun c1 => ?_, fun c1 => ⟨fun c2 => ?_, fun c2 => ?_⟩⟩
  · rw [cb_eq, i0, iN (by omega)] at c1
    exact ⟨Or.inl rfl, ⟨rz (by unfold s_fit; simp; omega), rfl⟩, Nat.zero_le _, Nat.zero_le _⟩
  · rw [cb_eq, iN (by omega), iN (by omega)] at c2
    exact ⟨Or.inl rfl, ⟨rz (by unfold s_fit; simp; omega), rfl⟩, Nat.zero_le _, Nat.zero_le _⟩
  rw [cb_eq, i0, iN (by omega)] at c1
  rw [cb_eq, iN (by omega), iN (by omega)] at c2
  refine ⟨0, 0, _, c_opposite η'' d hd, Nat.le_refl _, Nat.le_refl _, fun v η' hv => ?_⟩
  obtain ⟨rfl, rfl⟩ := hv
  refine ⟨_, j1, 0, 0, _, c_teethAt η' _ _ ((d + 2) % 4) fj _ _ _ _ _ _ _ j1 jf (by omega), Nat.le_refl _, Nat.le_refl _, fun v η'' hv => ?_⟩
  obtain ⟨rfl, rfl⟩ := hv
  rw [jff _ (by omega)]
  refine ⟨fun c3 => ?_, fun c3 => ?_⟩
  · rw [cb_ne, pk_sub tl, iN (by omega), iN (by omega)] at c3
    exact ⟨Or.inl rfl, ⟨rz (by unfold s_fit; simp; omega), rfl⟩, Nat.zero_le _, Nat.zero_le _⟩
  rw [cb_ne, pk_sub tl, iN (by omega), iN (by omega)] at c3
  refine ⟨_, k1, _, j1, fun c4 => ?_, fun c4 => ?_⟩
  · rw [cb_eq, iN (by omega), iN (by omega)] at c4
    exact ⟨Or.inl rfl, ⟨rz (by unfold s_fit; simp; omega), rfl⟩, Nat.zero_le _, Nat.zero_le _⟩
  rw [cb_eq, iN (by omega), iN (by omega)] at c4
  refine ⟨_, k1, 0, 0, _, c_hasPaper h k j hk hj, Nat.le_refl _, Nat.le_refl _, fun v η' hv => ?_⟩
  obtain ⟨rfl, rfl⟩ := hv
  have q1 : decide (σ 10 (4 * k + d) ≠ 0) = true := by simp; omega
  have q2 : decide (σ 10 (4 * k + d) ≠ s_all σ k d) = true := by simp; omega
  have q3 : decide (σ 10 (4 * j + (d + 2) % 4) = s_all σ k d - σ 10 (4 * k + d)) = true := by simp; omega
  have q4 : decide (k ≠ j) = true := by simp; omega
  refine ⟨fun c5 => ?_, fun c5 => ?_⟩
  · have c5 := b01_eq0 c5
    exact ⟨Or.inl rfl, ⟨rz (by unfold s_fit; rw [q1, q2, q3, q4, c5]; rfl), rfl⟩, Nat.zero_le _, Nat.zero_le _⟩
  have c5 := b01_ne0 c5
  refine ⟨_, k1, 0, 0, _, c_hasMark h k j d hk hj hd, Nat.le_refl _, Nat.le_refl _, fun v η'' hv => ?_⟩
  obtain ⟨rfl, rfl⟩ := hv
  refine ⟨fun c6 => ?_, fun c6 => ?_⟩
  · have c6 := b01_eq0 c6
    exact ⟨Or.inl rfl, ⟨rz (by unfold s_fit; rw [q1, q2, q3, q4, c5, c6]; rfl), rfl⟩, Nat.zero_le _, Nat.zero_le _⟩
  · have c6 := b01_ne0 c6
    exact ⟨Or.inr rfl, ⟨ro (by unfold s_fit; rw [q1, q2, q3, q4, c5, c6]; rfl), rfl⟩, Nat.zero_le _, Nat.zero_le _⟩
/-- what a stamp tells -/
def s_det (σ : jj_S) (k w : Nat) : Int32 := match w with
  | 4 => nI (σ 6 (8 * σ 7 k + 6))
  | 5 => nI (σ 6 (8 * σ 7 k + 7))
  | 6 => nI (s_pa σ k)
  | 7 => nI (s_mr σ k * σ 4 (s_pa σ k) + s_mc σ k)
  | 8 => nI (s_flk σ k)
  | 9 => s_price σ k
  | 10 => mI (σ 11 k)
  | _ => nI (σ 10 (4 * k + w))
theorem c_detail {X : Nat → Nat} {α : Nat → Nat → Nat} {τ : Nat → Nat} {σ : jj_S} {η : jj_H} (h : x_rep X α τ σ η) (k w : Nat) (hk : k < σ 12 3) (hw : w < 11) : jj_Ht mX5_detail [.ref (α 6 k), .int (nI w)] η 0 0 (fun v η' => v = some (.int (s_det σ k w)) ∧ η' = η) := by
  obtain ⟨k1, ⟨fk, kf, kff⟩, ⟨tk, -, k2⟩, k3⟩ := h.kk hk
  rcases (show w < 4 ∨ w = 4 ∨ w = 5 ∨ w = 6 ∨ w = 7 ∨ w = 8 ∨ w = 9 ∨ w = 10 by omega) with hw | rfl | rfl | rfl | rfl | rfl | rfl | rfl
  · refine jj_go tok_X5_detail zok_X5 py_5 rfl 90 fun J => ?_
    refine Or.inr ⟨Or.inl (by rw [iN (by omega)]; omega), 107, rfl, _, k1, 0, 0, _, c_teethAt η _ _ w fk _ _ _ _ _ _ _ k1 kf hw, Nat.le_refl _, Nat.le_refl _, fun v η' hv => ?_⟩
    obtain ⟨rfl, rfl⟩ := hv
    refine ⟨trivial, ⟨?_, rfl⟩, Nat.zero_le _, Nat.zero_le _⟩
    rw [kff w hw]
    rcases lt4 hw with rfl | rfl | rfl | rfl <;> rfl
  · refine jj_go tok_X5_detail zok_X5 py_5 rfl 90 fun J => ?_
    exact Or.inl ⟨0, 43, 44, rfl, by decide, rfl, rfl, _, k1, _, k2, trivial, ⟨rfl, rfl⟩, Nat.zero_le _, Nat.zero_le _⟩
  · refine jj_go tok_X5_detail zok_X5 py_5 rfl 90 fun J => ?_
    exact Or.inl ⟨1, 51, 52, rfl, by decide, rfl, rfl, _, k1, _, k2, trivial, ⟨rfl, rfl⟩, Nat.zero_le _, Nat.zero_le _⟩
  · refine jj_go tok_X5_detail zok_X5 py_5 rfl 90 fun J => ?_
    exact Or.inl ⟨2, 59, 60, rfl, by decide, rfl, rfl, _, k1, _, k2, _, k3, trivial, ⟨rfl, rfl⟩, Nat.zero_le _, Nat.zero_le _⟩
  · refine jj_go tok_X5_detail zok_X5 py_5 rfl 90 fun J => ?_
    refine Or.inl ⟨3, 70, 71, rfl, by decide, rfl, rfl, _, k1, _, k1, _, k2, _, k3, _, k1, trivial, ⟨?_, rfl⟩, Nat.zero_le _, Nat.zero_le _⟩
    rw [pk_mul, nI_add]
    rfl
  · refine jj_go tok_X5_detail zok_X5 py_5 rfl 90 fun J => ?_
    refine Or.inl ⟨4, 91, 92, rfl, by decide, rfl, rfl, _, k1, 0, 0, _, c_flaws h k hk, Nat.le_refl _, Nat.le_refl _, fun v η' hv => ?_⟩
    obtain ⟨rfl, rfl⟩ := hv
    exact ⟨trivial, ⟨rfl, rfl⟩, Nat.zero_le _, Nat.zero_le _⟩
  · refine jj_go tok_X5_detail zok_X5 py_5 rfl 90 fun J => ?_
    refine Or.inl ⟨5, 96, 97, rfl, by decide, rfl, rfl, _, k1, 0, 0, _, c_price h k hk, Nat.le_refl _, Nat.le_refl _, fun v η' hv => ?_⟩
    obtain ⟨rfl, rfl⟩ := hv
    exact ⟨trivial, ⟨rfl, rfl⟩, Nat.zero_le _, Nat.zero_le _⟩
  · refine jj_go tok_X5_detail zok_X5 py_5 rfl 90 fun J => ?_
    exact Or.inl ⟨6, 101, 102, rfl, by decide, rfl, rfl, _, k1, trivial, ⟨rfl, rfl⟩, Nat.zero_le _, Nat.zero_le _⟩
