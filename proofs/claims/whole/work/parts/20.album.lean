/-! THE ALBUM: what is mounted where -/
def s_atn (σ : jj_S) (q : Nat) : Nat → Option Nat
  | 0 => none
  | n + 1 => if σ 11 n = q + 1 then some n else s_atn σ q n
def s_at (σ : jj_S) (q : Nat) : Option Nat := s_atn σ q (σ 12 3)
theorem s_atn_some {σ : jj_S} {q k : Nat} : ∀ {n : Nat}, s_atn σ q n = some k → k < n ∧ σ 11 k = q + 1
  | 0, h => by cases h
  | n + 1, h => by
    unfold s_atn at h
    split at h
    next z => cases h; exact ⟨by omega, z⟩
    next z => exact ⟨by have := (s_atn_some h).1; omega, (s_atn_some h).2⟩
theorem s_atn_none {σ : jj_S} {q : Nat} : ∀ {n : Nat}, s_atn σ q n = none → ∀ k, k < n → σ 11 k ≠ q + 1
  | 0, _, k, hk => absurd hk (Nat.not_lt_zero k)
  | n + 1, h, k, hk => by
    unfold s_atn at h
    split at h
    next z => cases h
    next z =>
      rcases Nat.lt_or_ge k n with q | q
      · exact s_atn_none h k q
      · rw [show k = n by omega]; exact z
theorem s_at_some {σ : jj_S} {q k : Nat} (h : s_at σ q = some k) : k < σ 12 3 ∧ σ 11 k = q + 1 := s_atn_some h
theorem s_at_none {σ : jj_S} {q : Nat} (h : s_at σ q = none) : ∀ k, k < σ 12 3 → σ 11 k ≠ q + 1 := s_atn_none h
theorem x_rep.album {X : Nat → Nat} {α : Nat → Nat → Nat} {τ : Nat → Nat} {σ : jj_S} {η : jj_H} (h : x_rep X α τ σ η) : η (X 5) = some (x_o 0 [.ref (X 7)]) ∧ ∃ f, η (X 7) = some (x_r 6 64 f) ∧ ∀ q, q < 64 → f q = (s_at σ q).map (α 6) := by
  obtain ⟨-, -, -, -, -, -, -, ⟨h1, f, h2, h3⟩, -⟩ := h
  refine ⟨h1, f, h2, fun q hq => ?_⟩
  cases hs : s_at σ q with
  | none => exact (h3 q hq).2 (s_at_none hs)
  | some k => exact (h3 q hq).1 k (s_at_some hs).1 (s_at_some hs).2
theorem c_stampOn {X : Nat → Nat} {α : Nat → Nat → Nat} {τ : Nat → Nat} {σ : jj_S} {η : jj_H} (h : x_rep X α τ σ η) (r c : Nat) (x y : Int32) (hr : r < 8) (hc : c < 8) (hx : x = nI r) (hy : y = nI c) : jj_Ht mX0_stampOn [.ref (X 5), .int x, .int y] η 0 0 (fun v η' => v = some (va_rf ((s_at σ (8 * r + c)).map (α 6))) ∧ η' = η) := by
  obtain ⟨h1, f, h2, h3⟩ := h.album
  have e64 : (nI 64).toInt = 64 := rfl
  subst hx hy
  refine jj_go tok_X0_stampOn zok_X0 py_0 rfl 60 fun J => ?_
  refine ⟨0, 0, _, c_placeAt η _ _, Nat.le_refl _, Nat.le_refl _, fun v η' hv => ?_⟩
  obtain ⟨rfl, rfl⟩ := hv
  refine ⟨0, 0, _, c_hasPlace0 η' _ _, Nat.le_refl _, Nat.le_refl _, fun v η'' hv => ?_⟩
  obtain ⟨rfl, rfl⟩ := hv
  rw [pl8]
  refine ⟨fun c1 => ?_, fun c1 => ⟨_, h1, _, _, _, h2, fun c2 => ?_, fun c2 => ?_⟩⟩
  · have c1 := b01_eq0 c1
    rw [jin_nI (by omega), jin_nI (by omega)] at c1
    simp at c1
    omega
  · rw [cb_ge, e64, iN (by omega)] at c2
    omega
  · refine ⟨_, h1, _, _, _, 8 * r + c, (s_at σ (8 * r + c)).map (α 6), h2, rfl, by omega, h3 _ (by omega), ?_⟩
    cases s_at σ (8 * r + c) with
    | none => exact ⟨⟨rfl, rfl⟩, Nat.zero_le _, Nat.zero_le _⟩
    | some k => exact ⟨⟨rfl, rfl⟩, Nat.zero_le _, Nat.zero_le _⟩
theorem c_stampOn_out {X : Nat → Nat} {α : Nat → Nat → Nat} {τ : Nat → Nat} {σ : jj_S} {η : jj_H} (h : x_rep X α τ σ η) (x y : Int32) (hxy : (jin x 8 && jin y 8) = false) : jj_Ht mX0_stampOn [.ref (X 5), .int x, .int y] η 0 0 (fun v η' => v = some .null ∧ η' = η) := by
  refine jj_go tok_X0_stampOn zok_X0 py_0 rfl 60 fun J => ?_
  refine ⟨0, 0, _, c_placeAt η _ _, Nat.le_refl _, Nat.le_refl _, fun v η' hv => ?_⟩
  obtain ⟨rfl, rfl⟩ := hv
  refine ⟨0, 0, _, c_hasPlace0 η' _ _, Nat.le_refl _, Nat.le_refl _, fun v η'' hv => ?_⟩
  obtain ⟨rfl, rfl⟩ := hv
  refine ⟨fun c1 => ⟨⟨rfl, rfl⟩, Nat.zero_le _, Nat.zero_le _⟩, fun c1 => ?_⟩
  have c1 := b01_ne0 c1
  rw [hxy] at c1
  cases c1
/-- the place beside (r, c) in the direction d -/
def s_bp (r c d : Nat) : Option Nat := match d with
  | 0 => if r = 0 then none else some (8 * (r - 1) + c)
  | 1 => if c = 7 then none else some (8 * r + (c + 1))
  | 2 => if r = 7 then none else some (8 * (r + 1) + c)
  | _ => if c = 0 then none else some (8 * r + (c - 1))
/-- the stamp beside it -/
def s_nb (σ : jj_S) (r c d : Nat) : Option Nat := (s_bp r c d).bind (s_at σ)
theorem c_stampNb {X : Nat → Nat} {α : Nat → Nat → Nat} {τ : Nat → Nat} {σ : jj_S} {η : jj_H} (h : x_rep X α τ σ η) (r c d : Nat) (hr : r < 8) (hc : c < 8) (hd : d < 4) : jj_Ht mX0_stampOn [.ref (X 5), .int (nI r + jj_sv 0 d), .int (nI c + jj_sv 1 d)] η 0 0 (fun v η' => v = some (va_rf ((s_nb σ r c d).map (α 6))) ∧ η' = η) := by
  have out : ∀ x y : Int32, x.toInt < 0 ∨ 8 ≤ x.toInt ∨ y.toInt < 0 ∨ 8 ≤ y.toInt → (jin x 8 && jin y 8) = false := by
    intro x y hxy
    simp [jin]
    omega
  rcases lt4 hd with rfl | rfl | rfl | rfl
  · cases r with
    | zero => exact c_stampOn_out h _ _ (out _ _ (by left; decide))
    | succ r => exact c_stampOn h r c _ _ (by omega) hc (pk_m1 r) (a_z _)
  · rcases (show c = 7 ∨ c < 7 by omega) with rfl | hz
    · exact c_stampOn_out h _ _ (out _ _ (by right; right; right; decide))
    · have e : s_nb σ r c 1 = s_at σ (8 * r + (c + 1)) := by
        have z : ¬ c = 7 := by omega
        simp [s_nb, s_bp, z]
      rw [e]
      exact c_stampOn h r (c + 1) _ _ hr (by omega) (a_z _) (nI_1 c)
  · rcases (show r = 7 ∨ r < 7 by omega) with rfl | hz
    · exact c_stampOn_out h _ _ (out _ _ (by right; left; decide))
    · have e : s_nb σ r c 2 = s_at σ (8 * (r + 1) + c) := by
        have z : ¬ r = 7 := by omega
        simp [s_nb, s_bp, z]
      rw [e]
      exact c_stampOn h (r + 1) c _ _ (by omega) hc (nI_1 r) (a_z _)
  · cases c with
    | zero => exact c_stampOn_out h _ _ (out _ _ (by right; right; left; decide))
    | succ c => exact c_stampOn h r c _ _ hr (by omega) (a_z _) (pk_m1 c)
/-- how many stamps are beside a place in the first n directions; none if k does not fit one of them -/
def s_bs (σ : jj_S) (k r c : Nat) : Nat → Option Nat
  | 0 => some 0
  | n + 1 => (s_bs σ k r c n).bind fun m => match s_nb σ r c n with
    | none => some m
    | some j => if s_fit σ k n j then some (m + 1) else none
theorem s_bs_le {σ : jj_S} {k r c : Nat} : ∀ {n m : Nat}, s_bs σ k r c n = some m → m ≤ n
  | 0, m, h => by cases h; exact Nat.le_refl _
  | n + 1, m, h => by
    unfold s_bs at h
    cases hb : s_bs σ k r c n with
    | none => rw [hb] at h; cases h
    | some m' =>
      have := s_bs_le hb
      rw [hb] at h
      dsimp only [Option.bind] at h
      split at h
      · cases h; omega
      · split at h
        · cases h; omega
        · cases h
theorem s_bs_none {σ : jj_S} {k r c n : Nat} (h : s_bs σ k r c n = none) : ∀ j, s_bs σ k r c (n + j) = none
  | 0 => h
  | j + 1 => by
    show s_bs σ k r c (n + j + 1) = none
    unfold s_bs
    rw [s_bs_none h j]
    rfl
def oI (o : Option Nat) : Int32 := match o with
  | none => -1
  | some m => nI m
theorem s_nb_lt {σ : jj_S} {r c d j : Nat} (h : s_nb σ r c d = some j) : j < σ 12 3 := by
  unfold s_nb at h
  cases hb : s_bp r c d with
  | none => rw [hb] at h; cases h
  | some q => rw [hb] at h; exact (s_at_some h).1
theorem c_fittingBeside {X : Nat → Nat} {α : Nat → Nat → Nat} {τ : Nat → Nat} {σ : jj_S} {η : jj_H} (h : x_rep X α τ σ η) (k r c : Nat) (hk : k < σ 12 3) (hr : r < 8) (hc : c < 8) : jj_Ht mX0_fittingBeside [.ref (X 5), .ref (α 6 k), .int (nI r), .int (nI c)] η 0 0 (fun v η' => v = some (.int (oI (s_bs σ k r c 4))) ∧ η' = η) := by
  obtain ⟨h1, -⟩ := h.album
  obtain ⟨k1, -⟩ := h.kk hk
  have e4 : (nI 4).toInt = 4 := rfl
  refine jj_lp tok_X0_fittingBeside zok_X0 py_0 rfl fun J run => ?_
  have loop : ∀ m i, i + m = 4 → ∀ b, s_bs σ k r c i = some b → J η 0 0 6 [(0, .ref (X 5)), (1, .ref (α 6 k)), (2, .int (nI r)), (3, .int (nI c)), (4, .int (nI b)), (5, .int (nI i))] [] := by
    intro m
    induction m with
    | zero =>
      intro i hi b hb
      refine run [] 20 ?_
      refine ⟨fun c1 => ?_, fun c1 => ?_⟩
      · rw [show i = 4 by omega] at hb
        exact ⟨trivial, ⟨by rw [hb]; rfl, rfl⟩, Nat.zero_le _, Nat.zero_le _⟩
      · rw [cb_ge, e4, iN (by omega)] at c1
        omega
    | succ m ih =>
      intro i hi b hb
      refine run [(6, 6)] 60 ?_
      refine ⟨fun c1 => ?_, fun c1 => ⟨0, 0, _, c_rowStep η i (by omega), Nat.le_refl _, Nat.le_refl _, fun v η' hv => ?_⟩⟩
      · rw [cb_ge, e4, iN (by omega)] at c1
        omega
      obtain ⟨rfl, rfl⟩ := hv
      refine ⟨0, 0, _, c_columnStep η' i (by omega), Nat.le_refl _, Nat.le_refl _, fun v η'' hv => ?_⟩
      obtain ⟨rfl, rfl⟩ := hv
      refine ⟨_, h1, 0, 0, _, c_stampNb h r c i hr hc (by omega), Nat.le_refl _, Nat.le_refl _, fun v η' hv => ?_⟩
      obtain ⟨rfl, rfl⟩ := hv
      have ih := ih (i + 1) (by omega)
      rw [← nI_add i 1] at ih
      cases hn : s_nb σ r c i with
      | none =>
        have e : s_bs σ k r c (i + 1) = some b := by unfold s_bs; rw [hb]; simp [hn]
        exact ih b e
      | some j =>
        refine ⟨_, k1, 0, 0, _, c_joins h k j i hk (s_nb_lt hn) (by omega), Nat.le_refl _, Nat.le_refl _, fun v η'' hv => ?_⟩
        obtain ⟨rfl, rfl⟩ := hv
        refine ⟨fun c2 => ?_, fun c2 => ?_⟩
        · have c2 := b01_ne0 c2
          have e : s_bs σ k r c (i + 1) = some (b + 1) := by unfold s_bs; rw [hb]; simp [hn, c2]
          have ih := ih (b + 1) e
          rw [← nI_add b 1] at ih
          exact ih
        · have c2 := b01_eq0 (Classical.not_not.mp c2)
          have e : s_bs σ k r c (i + 1) = none := by unfold s_bs; rw [hb]; simp [hn, c2]
          refine ⟨trivial, ⟨?_, rfl⟩, Nat.zero_le _, Nat.zero_le _⟩
          have e4 := s_bs_none e m
          rw [show i + 1 + m = 4 by omega] at e4
          rw [e4]
          rfl
  refine run [(6, 6)] 20 ?_
  exact loop 4 0 rfl 0 rfl
