/-! STAMPS -/
theorem mI_m1 {m : Nat} (h : m ≤ 64) : mI m = -1 ↔ m = 0 := by
  unfold mI
  split
  next z => exact ⟨fun _ => z, fun _ => rfl⟩
  next z =>
    constructor
    · intro e
      rw [i_eq, iN (by omega), im1] at e
      omega
    · intro e
      exact absurd e z
theorem c_isMounted (η : jj_H) (a m : Nat) (v0 v1 v2 v3 v4 v5 v6 : Value) (h : η a = some (x_o 5 [v0, v1, v2, v3, v4, v5, v6, .int (mI m)])) (hm : m ≤ 64) : jj_Ht mX5_isMounted [.ref a] η 0 0 (fun v η' => v = some (.int (b01 (decide (m ≠ 0)))) ∧ η' = η) := by
  refine jj_go tok_X5_isMounted zok_X5 py_5 rfl 20 fun J => ?_
  refine ⟨_, h, fun c1 => ?_, fun c1 => ?_⟩
  · have c1 : mI m = -1 := c1
    rw [mI_m1 hm] at c1
    exact ⟨Or.inl rfl, ⟨rz (by simpa using c1), rfl⟩, Nat.zero_le _, Nat.zero_le _⟩
  · have c1 : ¬ mI m = -1 := c1
    rw [mI_m1 hm] at c1
    exact ⟨Or.inr rfl, ⟨ro (by simpa using c1), rfl⟩, Nat.zero_le _, Nat.zero_le _⟩
theorem c_teethAt (η : jj_H) (a t d : Nat) (f : Nat → Int32) (v0 v1 v2 v3 v4 v5 v7 : Value) (h : η a = some (x_o 5 [v0, v1, v2, v3, v4, v5, .ref t, v7])) (ht : η t = some (x_i 4 f)) (hd : d < 4) : jj_Ht mX5_teethAt [.ref a, .int (nI d)] η 0 0 (fun v η' => v = some (.int (f d)) ∧ η' = η) := by
  have e4 : (nI 4).toInt = 4 := rfl
  refine jj_go tok_X5_teethAt zok_X5 py_5 rfl 40 fun J => ?_
  refine ⟨fun c1 => ?_, fun c1 => ⟨_, h, _, _, _, ht, fun c2 => ?_, fun c2 => ⟨_, h, _, _, d, ht, rfl, hd, trivial, ⟨rfl, rfl⟩, Nat.zero_le _, Nat.zero_le _⟩⟩⟩
  · rw [cb_lt, i0, iN (by omega)] at c1
    omega
  · rw [cb_ge, e4, iN (by omega)] at c2
    omega
theorem c_putTeeth (η : jj_H) (a t d : Nat) (x : Int32) (f : Nat → Int32) (v0 v1 v2 v3 v4 v5 v7 : Value) (h : η a = some (x_o 5 [v0, v1, v2, v3, v4, v5, .ref t, v7])) (ht : η t = some (x_i 4 f)) (hd : d < 4) : jj_Ht mX5_putTeeth [.ref a, .int (nI d), .int x] η 0 0 (fun v η' => v = none ∧ η' = jj_up η t (x_i 4 (upd f d x))) := by
  have e4 : (nI 4).toInt = 4 := rfl
  refine jj_go tok_X5_putTeeth zok_X5 py_5 rfl 40 fun J => ?_
  refine ⟨fun c1 => ?_, fun c1 => ⟨_, h, _, _, _, ht, fun c2 => ?_, fun c2 => ⟨_, h, _, _, d, ht, rfl, hd, ⟨rfl, rfl⟩, Nat.zero_le _, Nat.zero_le _⟩⟩⟩
  · rw [cb_lt, i0, iN (by omega)] at c1
    omega
  · rw [cb_ge, e4, iN (by omega)] at c2
    omega
/-- what Integer.bitCount answers -/
def pcI (x : Int32) : Int32 :=
  let a := x - ((x.toUInt32 >>> ((nI 1).toUInt32 &&& Int32.toUInt32 31)).toInt32 &&& nI 1431655765)
  let b := (a &&& nI 858993459) + ((a.toUInt32 >>> ((nI 2).toUInt32 &&& Int32.toUInt32 31)).toInt32 &&& nI 858993459)
  let c := (b + (b.toUInt32 >>> ((nI 4).toUInt32 &&& Int32.toUInt32 31)).toInt32) &&& nI 252645135
  let d := c + (c.toUInt32 >>> ((nI 8).toUInt32 &&& Int32.toUInt32 31)).toInt32
  let e := d + (d.toUInt32 >>> ((nI 16).toUInt32 &&& Int32.toUInt32 31)).toInt32
  e &&& nI 63
theorem c_bitCountI (η : jj_H) (x : Int32) : jj_Ht mJ6_bitCount_0f7a4 [.int x] η 0 0 (fun v η' => v = some (.int (pcI x)) ∧ η' = η) := by
  refine jj_go tok_J6_bitCount_0f7a4 zok_J6 py_J6 rfl 80 fun J => ?_
  exact ⟨trivial, ⟨rfl, rfl⟩, Nat.zero_le _, Nat.zero_le _⟩
/-- what is known of the stamp k -/
theorem x_rep.okp {X : Nat → Nat} {α : Nat → Nat → Nat} {τ : Nat → Nat} {σ : jj_S} {η : jj_H} (h : x_rep X α τ σ η) {p : Nat} (hp : p < σ 12 0) : s_okp σ p := h.1.2.1 p hp
theorem s_ok.k {σ : jj_S} (h : s_ok σ) {k : Nat} (hk : k < σ 12 3) : σ 7 k < σ 12 2 ∧ s_pl σ k < σ 12 0 ∧ s_pa σ k < σ 12 1 ∧ σ 8 k < σ 0 (s_pl σ k) ∧ σ 9 k < σ 1 (s_pl σ k) ∧ σ 11 k ≤ 64 := by
  obtain ⟨h1, h2, h3, h4, h5, -⟩ := h
  obtain ⟨g1, g2, g3, g4, -⟩ := h5 k hk
  exact ⟨g1, (h4 _ g1).1, (h4 _ g1).2.1, g2, g3, g4⟩
theorem s_ok.p {σ : jj_S} (h : s_ok σ) {p : Nat} (hp : p < σ 12 0) : s_okp σ p := h.2.1 p hp
theorem x_rep.sheet {X : Nat → Nat} {α : Nat → Nat → Nat} {τ : Nat → Nat} {σ : jj_S} {η : jj_H} (h : x_rep X α τ σ η) {s : Nat} (hs : s < σ 12 2) : x_sheet α σ η s := h.2.2.2.2.2.2.2.2.2.2.2.1 s hs
theorem x_rep.paper {X : Nat → Nat} {α : Nat → Nat → Nat} {τ : Nat → Nat} {σ : jj_S} {η : jj_H} (h : x_rep X α τ σ η) {w : Nat} (hw : w < σ 12 1) : η (α 4 w) = some (x_o 2 [.int (nI w), .int (nI (σ 4 w)), .int (nI (σ 5 w))]) := h.2.2.2.2.2.2.2.2.2.2.1 w hw
theorem x_rep.plate {X : Nat → Nat} {α : Nat → Nat → Nat} {τ : Nat → Nat} {σ : jj_S} {η : jj_H} (h : x_rep X α τ σ η) {p : Nat} (hp : p < σ 12 0) : x_plate α σ η p := h.2.2.2.2.2.2.2.2.2.1 p hp
theorem x_rep.stamp {X : Nat → Nat} {α : Nat → Nat → Nat} {τ : Nat → Nat} {σ : jj_S} {η : jj_H} (h : x_rep X α τ σ η) {k : Nat} (hk : k < σ 12 3) : x_stamp α σ η k := h.2.2.2.2.2.2.2.2.2.2.2.2 k hk
theorem c_flaws {X : Nat → Nat} {α : Nat → Nat → Nat} {τ : Nat → Nat} {σ : jj_S} {η : jj_H} (h : x_rep X α τ σ η) (k : Nat) (hk : k < σ 12 3) : jj_Ht mX5_flaws [.ref (α 6 k)] η 0 0 (fun v η' => v = some (.int (nI (s_flk σ k))) ∧ η' = η) := by
  obtain ⟨b1, b2, b3, b4, b5, b6⟩ := h.1.k hk
  obtain ⟨hs, -⟩ := h.stamp hk
  obtain ⟨t, -, ht, -⟩ := h.sheet b1
  have hp := h.plate b2
  have o := (h.okp b2).1
  obtain ⟨o1, o2, o3, o4, -⟩ := o
  have o5 := (h.1.2.2.2.1 _ b1).2.2.1
  refine jj_go tok_X5_flaws zok_X5 py_5 rfl 40 fun J => ?_
  refine ⟨_, hs, _, ht, _, hs, _, hs, 0, 0, _, c_placeAt η _ _, Nat.le_refl _, Nat.le_refl _, fun v η' hv => ?_⟩
  obtain ⟨rfl, rfl⟩ := hv
  rw [pl8]
  refine ⟨_, hs, _, ht, _, hp.1, 0, 0, _, c_flawsIn hp.pl0 (h.okp b2) _ _ (by omega) (by omega), Nat.le_refl _, Nat.le_refl _, fun v η'' hv => ?_⟩
  obtain ⟨rfl, rfl⟩ := hv
  exact ⟨trivial, ⟨rfl, rfl⟩, Nat.zero_le _, Nat.zero_le _⟩
def s_price (σ : jj_S) (k : Nat) : Int32 := nI 10 + nI 30 * pcI (nI (s_flk σ k))
theorem c_price {X : Nat → Nat} {α : Nat → Nat → Nat} {τ : Nat → Nat} {σ : jj_S} {η : jj_H} (h : x_rep X α τ σ η) (k : Nat) (hk : k < σ 12 3) : jj_Ht mX5_price [.ref (α 6 k)] η 0 0 (fun v η' => v = some (.int (s_price σ k)) ∧ η' = η) := by
  obtain ⟨hs, -⟩ := h.stamp hk
  refine jj_go tok_X5_price zok_X5 py_5 rfl 40 fun J => ?_
  refine ⟨_, hs, 0, 0, _, c_flaws h k hk, Nat.le_refl _, Nat.le_refl _, fun v η' hv => ?_⟩
  obtain ⟨rfl, rfl⟩ := hv
  refine ⟨0, 0, _, c_bitCountI η' _, Nat.le_refl _, Nat.le_refl _, fun v η'' hv => ?_⟩
  obtain ⟨rfl, rfl⟩ := hv
  exact ⟨trivial, ⟨rfl, rfl⟩, Nat.zero_le _, Nat.zero_le _⟩
def s_strn (σ : jj_S) (k : Nat) : Nat → Nat
  | 0 => 0
  | n + 1 => if σ 10 (4 * k + n) = 0 then s_strn σ k n ||| 2 ^ n else s_strn σ k n
theorem s_all_le {σ : jj_S} (h : s_ok σ) {k : Nat} (hk : k < σ 12 3) (d : Nat) : 1 ≤ s_all σ k d ∧ s_all σ k d ≤ 65535 := by
  obtain ⟨b1, -⟩ := h.k hk
  obtain ⟨-, -, -, -, -, -, ⟨a1, a2⟩, a3, a4⟩ := h.2.2.2.1 _ b1
  unfold s_all s_g
  rcases (show d % 2 = 0 ∨ d % 2 = 1 by omega) with e | e <;> rw [e]
  · have h1 := Nat.pow_le_pow_right (show 0 < 2 by omega) a2
    have h2 := Nat.pow_le_pow_right (show 0 < 2 by omega) a1
    simp only [Nat.add_zero]
    omega
  · have h1 := Nat.pow_le_pow_right (show 0 < 2 by omega) a4
    have h2 := Nat.pow_le_pow_right (show 0 < 2 by omega) a3
    show 1 ≤ 2 ^ σ 6 (8 * σ 7 k + 7) - 1 ∧ 2 ^ σ 6 (8 * σ 7 k + 7) - 1 ≤ 65535
    omega
theorem s_teeth_le {σ : jj_S} (h : s_ok σ) {k d : Nat} (hk : k < σ 12 3) (hd : d < 4) : σ 10 (4 * k + d) ≤ s_all σ k d := (h.2.2.2.2.1 k hk).2.2.2.2 d hd
theorem c_straightSides {X : Nat → Nat} {α : Nat → Nat → Nat} {τ : Nat → Nat} {σ : jj_S} {η : jj_H} (h : x_rep X α τ σ η) (k : Nat) (hk : k < σ 12 3) : jj_Ht mX5_straightSides [.ref (α 6 k)] η 0 0 (fun v η' => v = some (.int (nI (s_strn σ k 4))) ∧ η' = η) := by
  obtain ⟨hs, f, hf, hff⟩ := h.stamp hk
  have e4 : (nI 4).toInt = 4 := rfl
  refine jj_lp tok_X5_straightSides zok_X5 py_5 rfl fun J run => ?_
  have loop : ∀ m i, i + m = 4 → J η 0 0 4 [(0, .ref (α 6 k)), (1, .int (nI (s_strn σ k i))), (2, .int (nI i))] [] := by
    intro m
    induction m with
    | zero =>
      intro i hi
      refine run [] 20 ?_
      refine ⟨_, hs, _, _, _, hf, fun c1 => ?_, fun c1 => ?_⟩
      · rw [show i = 4 by omega]
        exact ⟨trivial, ⟨rfl, rfl⟩, Nat.zero_le _, Nat.zero_le _⟩
      · rw [cb_ge, e4, iN (by omega)] at c1
        omega
    | succ m ih =>
      intro i hi
      refine run [(4, 3)] 40 ?_
      refine ⟨_, hs, _, _, _, hf, fun c1 => ?_, fun c1 => ⟨_, hs, _, _, i, hf, rfl, by omega, ?_⟩⟩
      · rw [cb_ge, e4, iN (by omega)] at c1
        omega
      have hle := s_teeth_le h.1 hk (show i < 4 by omega)
      have hl2 := (s_all_le h.1 hk i).2
      rw [hff i (by omega)]
      have ih := ih (i + 1) (by omega)
      rw [← nI_add i 1] at ih
      unfold s_strn at ih
      refine ⟨fun c2 => ?_, fun c2 => ?_⟩
      · rw [cb_ne, i0, iN (by omega)] at c2
        rw [if_neg (by omega)] at ih
        exact ih
      · rw [cb_ne, i0, iN (by omega)] at c2
        rw [if_pos (by omega), ← fa_or, ← sh_pow i (by omega)] at ih
        exact ih
  refine run [(4, 3)] 20 ?_
  exact loop 4 0 rfl
