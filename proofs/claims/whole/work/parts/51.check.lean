/-! THE CHECK'S OWN BUREAU: its rows hold σ, number by number -/
abbrev m_o (Y : Nat → Nat) (σ : jj_S) (th : Int32) : va_E := x_o 7 [.int th, .int (nI (σ 12 0)), .ref (Y 1), .ref (Y 2), .ref (Y 3), .ref (Y 4), .int (nI (σ 12 1)), .ref (Y 5), .ref (Y 6), .int (nI (σ 12 2)), .ref (Y 7), .int (nI (σ 12 3)), .ref (Y 8), .ref (Y 9), .ref (Y 10), .ref (Y 11), .ref (Y 12)]
def m_rep (Y : Nat → Nat) (σ : jj_S) (th : Int32) (η : jj_H) : Prop :=
  (∀ i j, i < 13 → j < 13 → i ≠ j → Y i ≠ Y j) ∧ (∀ p, σ 12 0 ≤ p → σ 2 p = 0) ∧
  η (Y 0) = some (m_o Y σ th) ∧
  η (Y 1) = some (x_i 6 (fun j => nI (σ 0 j))) ∧ η (Y 2) = some (x_i 6 (fun j => nI (σ 1 j))) ∧ η (Y 3) = some (x_i 6 (fun j => nI (σ 2 j))) ∧ η (Y 4) = some (x_i 300 (fun j => nI (σ 3 j))) ∧
  η (Y 5) = some (x_i 4 (fun j => nI (σ 4 j))) ∧ η (Y 6) = some (x_i 4 (fun j => nI (σ 5 j))) ∧ η (Y 7) = some (x_i 80 (fun j => nI (σ 6 j))) ∧
  η (Y 8) = some (x_i 40 (fun j => nI (σ 7 j))) ∧ η (Y 9) = some (x_i 40 (fun j => nI (σ 8 j))) ∧ η (Y 10) = some (x_i 40 (fun j => nI (σ 9 j))) ∧ η (Y 11) = some (x_i 160 (fun j => nI (σ 10 j))) ∧ η (Y 12) = some (x_i 40 (fun j => mI (σ 11 j)))
theorem m_rep.th {Y : Nat → Nat} {σ : jj_S} {th : Int32} {η : jj_H} (h : m_rep Y σ th η) (t : Int32) : m_rep Y σ t (jj_up η (Y 0) (m_o Y σ t)) := by
  obtain ⟨d, z, h0, h1, h2, h3, h4, h5, h6, h7, h8, h9, h10, h11, h12⟩ := h
  have n : ∀ i, 0 < i → i < 13 → Y i ≠ Y 0 := fun i h0 hi => d i 0 hi (by decide) (by omega)
  exact ⟨d, z, up_s, (up_n (n 1 (by decide) (by decide))).trans h1, (up_n (n 2 (by decide) (by decide))).trans h2, (up_n (n 3 (by decide) (by decide))).trans h3, (up_n (n 4 (by decide) (by decide))).trans h4, (up_n (n 5 (by decide) (by decide))).trans h5, (up_n (n 6 (by decide) (by decide))).trans h6, (up_n (n 7 (by decide) (by decide))).trans h7, (up_n (n 8 (by decide) (by decide))).trans h8, (up_n (n 9 (by decide) (by decide))).trans h9, (up_n (n 10 (by decide) (by decide))).trans h10, (up_n (n 11 (by decide) (by decide))).trans h11, (up_n (n 12 (by decide) (by decide))).trans h12⟩
theorem m_rep.o {Y : Nat → Nat} {σ : jj_S} {th : Int32} {η : jj_H} (h : m_rep Y σ th η) : η (Y 0) = some (m_o Y σ th) := h.2.2.1
/-- what the stamp k rests on -/
def m_kok (σ : jj_S) (k : Nat) : Prop := k < 40 ∧ σ 7 k < 10 ∧ s_pl σ k < 6 ∧ s_pa σ k < 4 ∧ (5 ≤ σ 6 (8 * σ 7 k + 6) ∧ σ 6 (8 * σ 7 k + 6) ≤ 16) ∧ (5 ≤ σ 6 (8 * σ 7 k + 7) ∧ σ 6 (8 * σ 7 k + 7) ≤ 16) ∧ (1 ≤ σ 0 (s_pl σ k) ∧ σ 0 (s_pl σ k) ≤ 8) ∧ (1 ≤ σ 1 (s_pl σ k) ∧ σ 1 (s_pl σ k) ≤ 8) ∧ σ 8 k < σ 0 (s_pl σ k) ∧ σ 9 k < σ 1 (s_pl σ k) ∧ (1 ≤ σ 4 (s_pa σ k) ∧ σ 4 (s_pa σ k) ≤ 4) ∧ (1 ≤ σ 5 (s_pa σ k) ∧ σ 5 (s_pa σ k) ≤ 4) ∧ σ 6 (8 * σ 7 k + 4) ≤ 3 ∧ σ 6 (8 * σ 7 k + 5) ≤ 3 ∧ σ 6 (8 * σ 7 k + 2) ≤ 999
theorem s_ok.m {σ : jj_S} (h : s_ok σ) {k : Nat} (hk : k < σ 12 3) : m_kok σ k := by
  obtain ⟨⟨g0, g1, g2, g3⟩, o2, h3, h4, h5, -⟩ := h
  obtain ⟨b1, b2, b3, b4, b5⟩ := h5 k hk
  obtain ⟨c1, c2, c3, c4, c5, c6, c7, c8, c9⟩ := h4 _ b1
  obtain ⟨e1, e2, e3, e4⟩ := h3 _ c2
  obtain ⟨f1, f2, f3, f4, f5⟩ := (o2 _ c1).1
  exact ⟨by omega, by omega, Nat.lt_of_lt_of_le c1 g0, Nat.lt_of_lt_of_le c2 g1, c7, ⟨c8, c9⟩, ⟨f1, f2⟩, ⟨f3, f4⟩, b2, b3, ⟨e1, e2⟩, ⟨e3, e4⟩, c5, c6, c3⟩
theorem ix8 (a e : Nat) : nI 8 * nI a + nI e = nI (8 * a + e) := by rw [pk_mul, nI_add]
theorem ix80 (a : Nat) : nI 8 * nI a = nI (8 * a) := pk_mul _ _
theorem ix4 (a e : Nat) : nI 4 * nI a + nI e = nI (4 * a + e) := by rw [pk_mul, nI_add]
theorem ix5 (p j : Nat) : nI 5 * (nI 10 * nI p + nI j) = nI (5 * (10 * p + j)) := by rw [pk_mul, nI_add, pk_mul]
theorem ix5e (p j e : Nat) : nI 5 * (nI 10 * nI p + nI j) + nI e = nI (5 * (10 * p + j) + e) := by rw [pk_mul, nI_add, pk_mul, nI_add]
theorem c_isIn (η : jj_H) (v l h : Int32) : jj_Ht mX7_isIn [.int v, .int l, .int h] η 0 0 (fun w η' => w = some (.int (b01 (decide (l.toInt ≤ v.toInt) && decide (v.toInt ≤ h.toInt)))) ∧ η' = η) := by
  refine jj_go tok_X7_isIn zok_X7 py_7 rfl 20 fun J => ?_
  refine ⟨fun c1 => ?_, fun c1 => ⟨fun c2 => ?_, fun c2 => ?_⟩⟩
  · rw [cb_lt] at c1
    exact ⟨Or.inl rfl, ⟨rz (by simp; omega), rfl⟩, Nat.zero_le _, Nat.zero_le _⟩
  · rw [cb_gt] at c2
    exact ⟨Or.inl rfl, ⟨rz (by simp; omega), rfl⟩, Nat.zero_le _, Nat.zero_le _⟩
  · rw [cb_lt] at c1
    rw [cb_gt] at c2
    exact ⟨Or.inr rfl, ⟨ro (by simp; omega), rfl⟩, Nat.zero_le _, Nat.zero_le _⟩
/-- from 0 up to N, N not included -/
theorem c_isIn0 (η : jj_H) (v y : Int32) (N : Nat) (hy : y.toInt = (N : Int) - 1) : jj_Ht mX7_isIn [.int v, .int 0, .int y] η 0 0 (fun w η' => w = some (.int (b01 (jin v N))) ∧ η' = η) := by
  refine (c_isIn η v 0 y).mono ?_
  rintro w η' ⟨h1, h2⟩
  refine ⟨h1.trans ?_, h2⟩
  rw [show (decide (Int32.toInt 0 ≤ v.toInt) && decide (v.toInt ≤ y.toInt)) = jin v N by
    unfold jin
    rw [i0, hy]
    congr 1
    exact decide_eq_decide.mpr (by omega)]
theorem c_isIn1 (η : jj_H) (v y : Int32) (N : Nat) (hy : y.toInt = (N : Int)) : jj_Ht mX7_isIn [.int v, .int (nI 1), .int y] η 0 0 (fun w η' => w = some (.int (b01 (j1 v N))) ∧ η' = η) := by
  refine (c_isIn η v (nI 1) y).mono ?_
  rintro w η' ⟨h1, h2⟩
  refine ⟨h1.trans ?_, h2⟩
  rw [show (decide ((nI 1).toInt ≤ v.toInt) && decide (v.toInt ≤ y.toInt)) = j1 v N by
    unfold j1
    rw [hy]
    rfl]
theorem m_1 {n : Nat} (h : n < 2147483648) : (nI n - nI 1).toInt = (n : Int) - 1 := by
  cases n with
  | zero => rfl
  | succ n =>
    rw [pk_sub (by omega), iN (by omega)]
    omega
theorem c_no {Y : Nat → Nat} {σ : jj_S} {th : Int32} {η : jj_H} (h : m_rep Y σ th η) (t : Int32) : jj_Ht mX7_no [.ref (Y 0), .int t] η 0 0 (fun v η' => v = some (.int 0) ∧ η' = jj_up η (Y 0) (m_o Y σ t)) := by
  refine jj_go tok_X7_no zok_X7 py_7 rfl 20 fun J => ?_
  exact ⟨_, h.o, trivial, ⟨rfl, rfl⟩, Nat.zero_le _, Nat.zero_le _⟩
theorem c_thrown {Y : Nat → Nat} {σ : jj_S} {th : Int32} {η : jj_H} (h : m_rep Y σ th η) : jj_Ht mX7_thrown [.ref (Y 0)] η 0 0 (fun v η' => v = some (.int th) ∧ η' = η) := by
  refine jj_go tok_X7_thrown zok_X7 py_7 rfl 20 fun J => ?_
  exact ⟨_, h.o, trivial, ⟨rfl, rfl⟩, Nat.zero_le _, Nat.zero_le _⟩
theorem c_isStamp {Y : Nat → Nat} {σ : jj_S} {th : Int32} {η : jj_H} (h : m_rep Y σ th η) (k : Int32) (hn : σ 12 3 ≤ 40) : jj_Ht mX7_isStamp [.ref (Y 0), .int k] η 0 0 (fun v η' => v = some (.int (b01 (jin k (σ 12 3)))) ∧ η' = η) := by
  refine jj_go tok_X7_isStamp zok_X7 py_7 rfl 20 fun J => ?_
  refine ⟨_, h.o, 0, 0, _, c_isIn0 η k _ (σ 12 3) (m_1 (by omega)), Nat.le_refl _, Nat.le_refl _, fun v η' hv => ?_⟩
  obtain ⟨rfl, rfl⟩ := hv
  exact ⟨b01_01 _, ⟨rfl, rfl⟩, Nat.zero_le _, Nat.zero_le _⟩
theorem c_isPlace {Y : Nat → Nat} {σ : jj_S} {th : Int32} {η : jj_H} (h : m_rep Y σ th η) (p : Nat) (r c : Int32) (hp : p < 6) (hr : σ 0 p ≤ 8) (hc : σ 1 p ≤ 8) : jj_Ht mX7_isPlace [.ref (Y 0), .int (nI p), .int r, .int c] η 0 0 (fun v η' => v = some (.int (b01 (jin r (σ 0 p) && jin c (σ 1 p)))) ∧ η' = η) := by
  obtain ⟨-, -, h0, h1, h2, -⟩ := id h
  refine jj_go tok_X7_isPlace zok_X7 py_7 rfl 40 fun J => ?_
  refine ⟨_, h0, _, _, p, h1, rfl, hp, 0, 0, _, c_isIn0 η r _ (σ 0 p) (m_1 (by omega)), Nat.le_refl _, Nat.le_refl _, fun v η' hv => ?_⟩
  obtain ⟨rfl, rfl⟩ := hv
  refine ⟨fun c1 => ?_, fun c1 => ⟨_, h0, _, _, p, h2, rfl, hp, 0, 0, _, c_isIn0 η' c _ (σ 1 p) (m_1 (by omega)), Nat.le_refl _, Nat.le_refl _, fun v η'' hv => ?_⟩⟩
  · exact ⟨Or.inl rfl, ⟨rz (by rw [b01_eq0 c1]; rfl), rfl⟩, Nat.zero_le _, Nat.zero_le _⟩
  obtain ⟨rfl, rfl⟩ := hv
  have c1 := b01_ne0 c1
  refine ⟨fun c2 => ?_, fun c2 => ?_⟩
  · exact ⟨Or.inl rfl, ⟨rz (by rw [b01_eq0 c2, Bool.and_false]), rfl⟩, Nat.zero_le _, Nat.zero_le _⟩
  · exact ⟨Or.inr rfl, ⟨ro (by rw [c1, b01_ne0 c2]; rfl), rfl⟩, Nat.zero_le _, Nat.zero_le _⟩
theorem c_all {Y : Nat → Nat} {σ : jj_S} {th : Int32} {η : jj_H} (h : m_rep Y σ th η) (k d : Nat) (hk : m_kok σ k) (hd : d < 4) : jj_Ht mX7_all [.ref (Y 0), .int (nI k), .int (nI d)] η 0 0 (fun v η' => v = some (.int (nI (s_all σ k d))) ∧ η' = η) := by
  obtain ⟨-, -, h0, h1, h2, h3, h4, h5, h6, h7, h8, -⟩ := id h
  obtain ⟨k1, k2, k3, k4, k5, k6, -⟩ := hk
  have hg : s_g σ k d ≤ 16 := by
    unfold s_g
    rcases (show d % 2 = 0 ∨ d % 2 = 1 by omega) with z | z <;> rw [z]
    · exact k5.2
    · exact k6.2
  refine jj_go tok_X7_all zok_X7 py_7 rfl 40 fun J => ?_
  refine ⟨_, h0, _, h0, _, _, k, h8, rfl, k1, by decide, _, _, 8 * σ 7 k + (6 + d % 2), h7, ?_, by omega, trivial, ⟨?_, rfl⟩, Nat.zero_le _, Nat.zero_le _⟩
  · rw [pk_rem (by omega) (by decide) (by decide), ix8, nI_add, Nat.add_assoc]
  · show some (Value.int (nI 1 <<< (nI (s_g σ k d) &&& 31) - nI 1)) = _
    rw [sh_pow _ (by omega), pk_sub Nat.one_le_two_pow]
    rfl
theorem sal_pos (σ : jj_S) {k : Nat} (hk : m_kok σ k) (d : Nat) : 1 ≤ s_all σ k d ∧ s_all σ k d ≤ 65535 := by
  obtain ⟨k1, k2, k3, k4, k5, k6, -⟩ := hk
  rw [← s_al_all]
  exact ⟨s_al_pos (by omega) (by omega), s_al_le k5.2 k6.2⟩
