/-! THE FACE: WHAT IS COUNTED -/
theorem s_flk_lt {σ : jj_S} (h : s_ok σ) {k : Nat} (hk : k < σ 12 3) : s_flk σ k < 32 := s_fl_lt (h.p (h.k hk).2.1) _ _
theorem s_strn_lt (σ : jj_S) (k : Nat) : ∀ n, s_strn σ k n < 2 ^ n
  | 0 => Nat.zero_lt_one
  | n + 1 => by
    have ih := s_strn_lt σ k n
    have h2 : 2 ^ n < 2 ^ (n + 1) := Nat.pow_lt_pow_right (by decide) (by omega)
    unfold s_strn
    split
    · exact Nat.or_lt_two_pow (by omega) h2
    · omega
theorem s_str_lt (σ : jj_S) (k : Nat) : s_strn σ k 4 < 2147483648 := Nat.lt_trans (s_strn_lt σ k 4) (by decide)
/-- the origins of the stamp k on the first n plates -/
def s_orn (σ : jj_S) (k : Nat) : Nat → Nat
  | 0 => 0
  | n + 1 => if n < σ 12 0 then s_orn σ k n + s_lkn σ n (s_flk σ k) (s_strn σ k 4) else s_orn σ k n
theorem c_originsOf {X : Nat → Nat} {α : Nat → Nat → Nat} {τ : Nat → Nat} {σ : jj_S} {η : jj_H} (h : x_rep X α τ σ η) (k : Nat) (hk : k < σ 12 3) : jj_Ht mX6_originsOf [.ref (X 0), .ref (α 6 k)] η 0 0 (fun v η' => v = some (.int (nI (s_orn σ k 6))) ∧ η' = η) := by
  have h0 := h.2.2.1
  obtain ⟨k1, -⟩ := h.kk hk
  obtain ⟨f, hf, hff⟩ := h.2.2.2.1
  have e6 : (nI 6).toInt = 6 := rfl
  refine jj_lp tok_X6_originsOf zok_X6 py_6 rfl fun J run => ?_
  have loop : ∀ m i, i + m = 6 → J η 0 0 27 [(0, .ref (X 0)), (1, .ref (α 6 k)), (2, .int (nI (s_flk σ k))), (3, .int (nI (s_strn σ k 4))), (4, .int (nI (s_orn σ k i))), (5, .ref (X 1)), (6, .int (nI 6)), (7, .int (nI i))] [] := by
    intro m
    induction m with
    | zero =>
      intro i hi
      have hi : i = 6 := hi
      refine run [] 20 ?_
      refine ⟨fun c1 => ?_, fun c1 => ?_⟩
      · rw [hi]
        exact ⟨trivial, ⟨rfl, rfl⟩, Nat.zero_le _, Nat.zero_le _⟩
      · rw [cb_ge, e6, iN (by omega)] at c1
        omega
    | succ m ih =>
      intro i hi
      have ih := ih (i + 1) (by omega)
      rw [← nI_add i 1] at ih
      refine run [(27, 8)] 40 ?_
      by_cases hin : i < σ 12 0
      · have e : s_orn σ k (i + 1) = s_orn σ k i + s_lkn σ i (s_flk σ k) (s_strn σ k 4) := by
          conv => lhs; unfold s_orn
          rw [if_pos hin]
        rw [e, ← nI_add (s_orn σ k i)] at ih
        obtain ⟨pl, -⟩ := h.plate hin
        refine ⟨fun c1 => ?_, fun c1 => ⟨_, _, _, i, some (α 0 i), hf, rfl, by omega, by rw [hff i (by omega), if_pos hin], _, pl, 0, 0, _, c_placesLike (h.plate hin) (h.okp hin) _ _ (s_flk_lt h.1 hk) (s_str_lt σ k), Nat.le_refl _, Nat.le_refl _, fun v η' hv => ?_⟩⟩
        · rw [cb_ge, e6, iN (by omega)] at c1
          omega
        obtain ⟨rfl, rfl⟩ := hv
        exact ih
      · have e : s_orn σ k (i + 1) = s_orn σ k i := by
          conv => lhs; unfold s_orn
          rw [if_neg hin]
        rw [e] at ih
        refine ⟨fun c1 => ?_, fun c1 => ⟨_, _, _, i, none, hf, rfl, by omega, by rw [hff i (by omega), if_neg hin], ih⟩⟩
        rw [cb_ge, e6, iN (by omega)] at c1
        omega
  refine run [(27, 8)] 60 ?_
  refine ⟨_, k1, 0, 0, _, c_flaws h k hk, Nat.le_refl _, Nat.le_refl _, fun v η' hv => ?_⟩
  obtain ⟨rfl, rfl⟩ := hv
  refine ⟨_, k1, 0, 0, _, c_straightSides h k hk, Nat.le_refl _, Nat.le_refl _, fun v η'' hv => ?_⟩
  obtain ⟨rfl, rfl⟩ := hv
  refine ⟨_, h0, _, _, _, hf, ?_⟩
  exact loop 6 0 rfl
/-- what count answers -/
def s_cnt (σ : jj_S) (w : Nat) : Int32 := match w with
  | 0 => nI (σ 12 0)
  | 1 => nI (σ 12 1)
  | 2 => nI (σ 12 2)
  | 3 => nI (σ 12 3)
  | 4 => nI (popc (b_tk σ))
  | 5 => nI (b_prs (b_tk σ))
  | 6 => nI (b_blk (b_tk σ))
  | 7 => nI (b_lc (b_tk σ) 64).2
  | 8 => nI (b_rc (b_tk σ) 8)
  | 9 => nI (g_cr σ (σ 12 3))
  | 10 => nI (g_lg σ (σ 12 3))
  | _ => b_wo σ 64
/-- only the row of groups may be another -/
def g_V (X : Nat → Nat) (η η' : jj_H) : Prop := (∀ b, b ≠ X 6 → η' b = η b) ∧ ∃ F, η' (X 6) = some (x_i 40 F)
theorem x_rep.gv {X : Nat → Nat} {α : Nat → Nat → Nat} {τ : Nat → Nat} {σ : jj_S} {η : jj_H} (h : x_rep X α τ σ η) : g_V X η η := ⟨fun _ _ => rfl, h.2.2.2.2.2.2.2.2.1⟩
theorem g_W.v {X : Nat → Nat} {η η' : jj_H} {g : Nat → Nat} (h : g_W X η η' g) : g_V X η η' := ⟨h.1, h.2.elim fun F hF => ⟨F, hF.1⟩⟩
theorem g_V.tr {X : Nat → Nat} {η η' η'' : jj_H} (h : g_V X η η') (h2 : g_V X η' η'') : g_V X η η'' := ⟨fun b hb => (h2.1 b hb).trans (h.1 b hb), h2.2⟩
theorem c_countOf {X : Nat → Nat} {α : Nat → Nat → Nat} {τ : Nat → Nat} {σ : jj_S} {η : jj_H} (h : x_rep X α τ σ η) (w : Nat) (hw : w < 12) : jj_Ht mX6_countOf [.ref (X 0), .int (nI w)] η 0 0 (fun v η' => v = some (.int (s_cnt σ w)) ∧ g_V X η η') := by
  have h0 := h.2.2.1
  have h5 := h.album.1
  have hv0 := h.gv
  rcases (show w = 0 ∨ w = 1 ∨ w = 2 ∨ w = 3 ∨ w = 4 ∨ w = 5 ∨ w = 6 ∨ w = 7 ∨ w = 8 ∨ w = 9 ∨ w = 10 ∨ w = 11 by omega) with rfl | rfl | rfl | rfl | rfl | rfl | rfl | rfl | rfl | rfl | rfl | rfl
  · refine jj_go tok_X6_countOf zok_X6 py_6 rfl 20 fun J => ?_
    exact Or.inl ⟨0, 59, 60, rfl, by decide, rfl, rfl, _, h0, trivial, ⟨rfl, hv0⟩, Nat.zero_le _, Nat.zero_le _⟩
  · refine jj_go tok_X6_countOf zok_X6 py_6 rfl 20 fun J => ?_
    exact Or.inl ⟨1, 64, 65, rfl, by decide, rfl, rfl, _, h0, trivial, ⟨rfl, hv0⟩, Nat.zero_le _, Nat.zero_le _⟩
  · refine jj_go tok_X6_countOf zok_X6 py_6 rfl 20 fun J => ?_
    exact Or.inl ⟨2, 69, 70, rfl, by decide, rfl, rfl, _, h0, trivial, ⟨rfl, hv0⟩, Nat.zero_le _, Nat.zero_le _⟩
  · refine jj_go tok_X6_countOf zok_X6 py_6 rfl 20 fun J => ?_
    exact Or.inl ⟨3, 74, 75, rfl, by decide, rfl, rfl, _, h0, trivial, ⟨rfl, hv0⟩, Nat.zero_le _, Nat.zero_le _⟩
  · refine jj_go tok_X6_countOf zok_X6 py_6 rfl 20 fun J => ?_
    refine Or.inl ⟨4, 79, 80, rfl, by decide, rfl, rfl, _, h0, _, h5, 0, 0, _, c_mountedStamps h, Nat.le_refl _, Nat.le_refl _, fun v η' hv => ?_⟩
    obtain ⟨rfl, rfl⟩ := hv
    exact ⟨trivial, ⟨rfl, hv0⟩, Nat.zero_le _, Nat.zero_le _⟩
  · refine jj_go tok_X6_countOf zok_X6 py_6 rfl 20 fun J => ?_
    refine Or.inl ⟨5, 87, 88, rfl, by decide, rfl, rfl, _, h0, _, h5, 0, 0, _, c_pairs0 h, Nat.le_refl _, Nat.le_refl _, fun v η' hv => ?_⟩
    obtain ⟨rfl, rfl⟩ := hv
    exact ⟨trivial, ⟨rfl, hv0⟩, Nat.zero_le _, Nat.zero_le _⟩
  · refine jj_go tok_X6_countOf zok_X6 py_6 rfl 20 fun J => ?_
    refine Or.inl ⟨6, 95, 96, rfl, by decide, rfl, rfl, _, h0, _, h5, 0, 0, _, c_blocks0 h, Nat.le_refl _, Nat.le_refl _, fun v η' hv => ?_⟩
    obtain ⟨rfl, rfl⟩ := hv
    exact ⟨trivial, ⟨rfl, hv0⟩, Nat.zero_le _, Nat.zero_le _⟩
  · refine jj_go tok_X6_countOf zok_X6 py_6 rfl 20 fun J => ?_
    refine Or.inl ⟨7, 103, 104, rfl, by decide, rfl, rfl, _, h0, _, h5, 0, 0, _, c_largestCluster h, Nat.le_refl _, Nat.le_refl _, fun v η' hv => ?_⟩
    obtain ⟨rfl, rfl⟩ := hv
    exact ⟨trivial, ⟨rfl, hv0⟩, Nat.zero_le _, Nat.zero_le _⟩
  · refine jj_go tok_X6_countOf zok_X6 py_6 rfl 20 fun J => ?_
    refine Or.inl ⟨8, 111, 112, rfl, by decide, rfl, rfl, _, h0, _, h5, 0, 0, _, c_largestRectangle h, Nat.le_refl _, Nat.le_refl _, fun v η' hv => ?_⟩
    obtain ⟨rfl, rfl⟩ := hv
    exact ⟨trivial, ⟨rfl, hv0⟩, Nat.zero_le _, Nat.zero_le _⟩
  · refine jj_go tok_X6_countOf zok_X6 py_6 rfl 20 fun J => ?_
    refine Or.inl ⟨9, 119, 120, rfl, by decide, rfl, rfl, _, h0, 0, 0, _, c_groups h, Nat.le_refl _, Nat.le_refl _, fun v η' hv => ?_⟩
    obtain ⟨rfl, hw⟩ := hv
    exact ⟨trivial, ⟨rfl, hw.v⟩, Nat.zero_le _, Nat.zero_le _⟩
  · refine jj_go tok_X6_countOf zok_X6 py_6 rfl 20 fun J => ?_
    refine Or.inl ⟨10, 124, 125, rfl, by decide, rfl, rfl, _, h0, 0, 0, _, c_largestGroup h, Nat.le_refl _, Nat.le_refl _, fun v η' hv => ?_⟩
    obtain ⟨rfl, hw⟩ := hv
    exact ⟨trivial, ⟨rfl, hw.v⟩, Nat.zero_le _, Nat.zero_le _⟩
  · refine jj_go tok_X6_countOf zok_X6 py_6 rfl 20 fun J => ?_
    refine Or.inr ⟨Or.inr (by decide), 130, rfl, _, h0, _, h5, 0, 0, _, c_worth h, Nat.le_refl _, Nat.le_refl _, fun v η' hv => ?_⟩
    obtain ⟨rfl, rfl⟩ := hv
    exact ⟨trivial, ⟨rfl, hv0⟩, Nat.zero_le _, Nat.zero_le _⟩
theorem f_count_ok {X : Nat → Nat} {α : Nat → Nat → Nat} {τ : Nat → Nat} {σ : jj_S} {η : jj_H} (h : x_rep X α τ σ η) (w : Nat) (hw : w < 12) : jj_HX mX6_count [.ref (X 0), .int (nI w)] η 0 0 (fun v η' => v = some (.int (s_cnt σ w)) ∧ g_V X η η') (fun _ => False) := by
  have h0 := h.2.2.1
  have e11 : (nI 11).toInt = 11 := rfl
  refine jj_gx tok_X6_count zok_X6 py_6 rfl 40 fun J => ?_
  refine ⟨0, 0, _, c_isOutside η _ _ _, Nat.le_refl _, Nat.le_refl _, fun v η' hv => ?_⟩
  obtain ⟨rfl, rfl⟩ := hv
  refine ⟨fun c1 => ⟨_, h0, 0, 0, _, c_countOf h w hw, Nat.le_refl _, Nat.le_refl _, fun v η'' hv => ?_⟩, fun c1 => ?_⟩
  · obtain ⟨rfl, hw⟩ := hv
    exact ⟨trivial, ⟨rfl, hw⟩, Nat.zero_le _, Nat.zero_le _⟩
  · have c1 := b01_ne0 c1
    rw [e11, i0, iN (by omega)] at c1
    simp at c1
    omega
theorem f_count_x (X : Nat → Nat) (η : jj_H) (w : Int32) (hj : jin w 12 = false) : jj_HX mX6_count [.ref (X 0), .int w] η 1 6 (fun _ _ => False) (fun E => E = eI) := by
  have e11 : (nI 11).toInt = 11 := rfl
  refine jj_gx tok_X6_count zok_X6 py_6 rfl 40 fun J => ?_
  refine ⟨0, 0, _, c_isOutside η _ _ _, Nat.zero_le _, Nat.zero_le _, fun v η' hv => ?_⟩
  obtain ⟨rfl, rfl⟩ := hv
  refine ⟨fun c1 => ?_, fun c1 => ⟨⟨rfl, rfl⟩, Nat.le_refl _, Nat.le_refl _⟩⟩
  have c1 := b01_eq0 c1
  rw [e11, i0] at c1
  simp [jin] at hj c1
  omega
theorem f_advise_ok {X : Nat → Nat} {α : Nat → Nat → Nat} {τ : Nat → Nat} {σ : jj_S} {η : jj_H} (h : x_rep X α τ σ η) (k : Nat) (hk : k < σ 12 3) (hm : σ 11 k = 0) : jj_HX mX6_advise [.ref (X 0), .int (nI k)] η 0 0 (fun v η' => v = some (.int (mI (s_bst σ k 64).2)) ∧ η' = η) (fun _ => False) := by
  have h0 := h.2.2.1
  obtain ⟨k1, -⟩ := h.kk hk
  refine jj_gx tok_X6_advise zok_X6 py_6 rfl 40 fun J => ?_
  refine ⟨_, h0, 0, 0, _, c_stampN_some h k hk, Nat.le_refl _, Nat.le_refl _, fun v η' hv => ?_⟩
  obtain ⟨rfl, rfl⟩ := hv
  refine ⟨_, k1, 0, 0, _, c_isMounted η' _ _ _ _ _ _ _ _ _ k1 (h.1.k hk).2.2.2.2.2, Nat.le_refl _, Nat.le_refl _, fun v η'' hv => ?_⟩
  obtain ⟨rfl, rfl⟩ := hv
  refine ⟨fun c1 => ⟨_, h0, _, h.album.1, 0, 0, _, c_bestPlaceFor h k hk, Nat.le_refl _, Nat.le_refl _, fun v η' hv => ?_⟩, fun c1 => ?_⟩
  · obtain ⟨rfl, rfl⟩ := hv
    exact ⟨trivial, ⟨rfl, rfl⟩, Nat.zero_le _, Nat.zero_le _⟩
  · have c1 := b01_ne0 c1
    simp at c1
    omega
theorem f_advise_x1 {X : Nat → Nat} {α : Nat → Nat → Nat} {τ : Nat → Nat} {σ : jj_S} {η : jj_H} (h : x_rep X α τ σ η) (k : Int32) (hk : jin k (σ 12 3) = false) : jj_HX mX6_advise [.ref (X 0), .int k] η 1 6 (fun _ _ => False) (fun E => E = eI) := by
  have h0 := h.2.2.1
  refine jj_gx tok_X6_advise zok_X6 py_6 rfl 40 fun J => ?_
  refine ⟨_, h0, 0, 0, _, c_stampN_none h k hk, Nat.zero_le _, Nat.zero_le _, fun v η' hv => ?_⟩
  obtain ⟨rfl, rfl⟩ := hv
  exact ⟨⟨rfl, rfl⟩, Nat.le_refl _, Nat.le_refl _⟩
theorem f_advise_x2 {X : Nat → Nat} {α : Nat → Nat → Nat} {τ : Nat → Nat} {σ : jj_S} {η : jj_H} (h : x_rep X α τ σ η) (k : Nat) (hk : k < σ 12 3) (hm : ¬ σ 11 k = 0) : jj_HX mX6_advise [.ref (X 0), .int (nI k)] η 1 6 (fun _ _ => False) (fun E => E = eS) := by
  have h0 := h.2.2.1
  obtain ⟨k1, -⟩ := h.kk hk
  refine jj_gx tok_X6_advise zok_X6 py_6 rfl 40 fun J => ?_
  refine ⟨_, h0, 0, 0, _, c_stampN_some h k hk, Nat.zero_le _, Nat.zero_le _, fun v η' hv => ?_⟩
  obtain ⟨rfl, rfl⟩ := hv
  refine ⟨_, k1, 0, 0, _, c_isMounted η' _ _ _ _ _ _ _ _ _ k1 (h.1.k hk).2.2.2.2.2, Nat.zero_le _, Nat.zero_le _, fun v η'' hv => ?_⟩
  obtain ⟨rfl, rfl⟩ := hv
  refine ⟨fun c1 => ?_, fun c1 => ⟨⟨rfl, rfl⟩, Nat.le_refl _, Nat.le_refl _⟩⟩
  have c1 := b01_eq0 c1
  simp at c1
  exact absurd c1 hm
/-- the place in order of the i-th index below n that p holds of -/
def s_fnd (p : Nat → Bool) (i : Nat) : Nat → Option Nat
  | 0 => none
  | n + 1 => match s_fnd p i n with
    | some j => some j
    | none => if p n = true ∧ fb_ct p n = i then some n else none
theorem s_fnd_le {p : Nat → Bool} {i : Nat} : ∀ {n}, s_fnd p i n = none → fb_ct p n ≤ i
  | 0, _ => Nat.zero_le _
  | n + 1, h => by
    unfold s_fnd at h
    cases hs : s_fnd p i n with
    | some j => rw [hs] at h; cases h
    | none =>
      rw [hs] at h
      have ih := s_fnd_le hs
      dsimp only at h
      split at h
      · cases h
      next z =>
        rw [fb_ct_succ]
        split
        next y =>
          have : ¬ fb_ct p n = i := fun q => z ⟨y, q⟩
          omega
        next => omega
theorem s_fnd_st {p : Nat → Bool} {i n j : Nat} (h : s_fnd p i n = some j) : ∀ m, s_fnd p i (n + m) = some j
  | 0 => h
  | m + 1 => by
    show s_fnd p i (n + m + 1) = some j
    unfold s_fnd
    rw [s_fnd_st h m]
/-- which stamps fit k in the direction d -/
def s_fk (σ : jj_S) (k d : Nat) (j : Nat) : Bool := decide (j < σ 12 3) && s_fit σ k d j
theorem f_fitting_ok {X : Nat → Nat} {α : Nat → Nat → Nat} {τ : Nat → Nat} {σ : jj_S} {η : jj_H} (h : x_rep X α τ σ η) (k d i : Nat) (hk : k < σ 12 3) (hd : d < 4) (hi : i < 2147483648) : jj_HX mX6_fitting [.ref (X 0), .int (nI k), .int (nI d), .int (nI i)] η 0 0 (fun v η' => v = some (.int (oI (s_fnd (s_fk σ k d) i 40))) ∧ η' = η) (fun _ => False) := by
  have h0 := h.2.2.1
  have hn : σ 12 3 ≤ 40 := h.1.1.2.2.2
  obtain ⟨k1, -⟩ := h.kk hk
  obtain ⟨f, hf, hff⟩ := h.2.2.2.2.2.2.1
  have e40 : (nI 40).toInt = 40 := rfl
  refine jj_lx tok_X6_fitting zok_X6 py_6 rfl fun J run => ?_
  have loop : ∀ m j, j + m = 40 → s_fnd (s_fk σ k d) i j = none → J η 0 0 50 [(0, .ref (X 0)), (1, .int (nI k)), (2, .int (nI d)), (3, .int (nI i)), (4, .ref (α 6 k)), (5, .int (nI (i - fb_ct (s_fk σ k d) j))), (6, .ref (X 4)), (7, .int (nI 40)), (8, .int (nI j))] [] := by
    intro m
    induction m with
    | zero =>
      intro j hj hs
      have hj : j = 40 := hj
      refine run [] 20 ?_
      refine ⟨fun c1 => ?_, fun c1 => ?_⟩
      · rw [hj] at hs
        refine ⟨trivial, ⟨?_, rfl⟩, Nat.zero_le _, Nat.zero_le _⟩
        rw [hs]
        rfl
      · rw [cb_ge, e40, iN (by omega)] at c1
        omega
    | succ m ih =>
      intro j hj hs
      have ih := ih (j + 1) (by omega)
      have hle := s_fnd_le hs
      rw [← nI_add j 1] at ih
      have un : s_fnd (s_fk σ k d) i (j + 1) = if s_fk σ k d j = true ∧ fb_ct (s_fk σ k d) j = i then some j else none := by
        conv => lhs; unfold s_fnd
        rw [hs]
      refine run [(50, 9)] 60 ?_
      by_cases hin : j < σ 12 3
      · refine ⟨fun c1 => ?_, fun c1 => ⟨_, _, _, j, some (α 6 j), hf, rfl, by omega, by rw [hff j (by omega), if_pos hin], _, k1, 0, 0, _, c_joins h k j d hk hin hd, Nat.le_refl _, Nat.le_refl _, fun v η' hv => ?_⟩⟩
        · rw [cb_ge, e40, iN (by omega)] at c1
          omega
        obtain ⟨rfl, rfl⟩ := hv
        obtain ⟨j1, -⟩ := h.kk hin
        refine ⟨fun c2 => ?_, fun c2 => ⟨fun c3 => ?_, fun c3 => ?_⟩⟩
        · have c2 := b01_eq0 c2
          have z : s_fk σ k d j = false := by unfold s_fk; rw [c2]; exact Bool.and_false _
          have e : fb_ct (s_fk σ k d) (j + 1) = fb_ct (s_fk σ k d) j := by
            rw [fb_ct_succ, z]
            rfl
          rw [un, z, e] at ih
          exact ih (if_neg (fun q => by cases q.1))
        · have c2 := b01_ne0 c2
          have z : s_fk σ k d j = true := by unfold s_fk; rw [c2]; simp [hin]
          rw [cb_ne, i0, iN (by omega)] at c3
          have e : fb_ct (s_fk σ k d) (j + 1) = fb_ct (s_fk σ k d) j + 1 := by
            rw [fb_ct_succ, z]
            rfl
          have e2 : i - fb_ct (s_fk σ k d) j = (i - (fb_ct (s_fk σ k d) j + 1)) + 1 := by omega
          rw [un, z, e, ← pk_m1 (i - (fb_ct (s_fk σ k d) j + 1)), ← e2] at ih
          exact ih (if_neg (fun q => by omega))
        · have c2 := b01_ne0 c2
          have z : s_fk σ k d j = true := by unfold s_fk; rw [c2]; simp [hin]
          rw [cb_ne, i0, iN (by omega)] at c3
          refine ⟨_, j1, trivial, ⟨?_, rfl⟩, Nat.zero_le _, Nat.zero_le _⟩
          have st : s_fnd (s_fk σ k d) i (j + 1) = some j := by rw [un, if_pos ⟨z, by omega⟩]
          have := s_fnd_st st m
          rw [show j + 1 + m = 40 by omega] at this
          rw [this]
          rfl
      · have z : s_fk σ k d j = false := by unfold s_fk; simp [hin]
        have e : fb_ct (s_fk σ k d) (j + 1) = fb_ct (s_fk σ k d) j := by
          rw [fb_ct_succ, z]
          rfl
        rw [un, z, e] at ih
        refine ⟨fun c1 => ?_, fun c1 => ⟨_, _, _, j, none, hf, rfl, by omega, by rw [hff j (by omega), if_neg hin], ih (if_neg (fun q => by cases q.1))⟩⟩
        rw [cb_ge, e40, iN (by omega)] at c1
        omega
  refine run [(50, 9)] 60 ?_
  refine ⟨_, h0, 0, 0, _, c_stampN_some h k hk, Nat.le_refl _, Nat.le_refl _, fun v η' hv => ?_⟩
  obtain ⟨rfl, rfl⟩ := hv
  refine ⟨0, 0, _, c_isSide η' _, Nat.le_refl _, Nat.le_refl _, fun v η'' hv => ?_⟩
  obtain ⟨rfl, rfl⟩ := hv
  have hj : jin (nI d) 4 = true := by rw [jin_nI (by omega)]; simp [hd]
  refine ⟨fun c1 => ?_, fun c1 => ⟨fun c2 => ⟨_, h0, _, _, _, hf, ?_⟩, fun c2 => ?_⟩⟩
  · have c1 := b01_eq0 c1
    rw [hj] at c1
    cases c1
  · exact loop 40 0 rfl rfl
  · rw [cb_ge, i0, iN (by omega)] at c2
    omega
theorem f_fitting_x {X : Nat → Nat} {α : Nat → Nat → Nat} {τ : Nat → Nat} {σ : jj_S} {η : jj_H} (h : x_rep X α τ σ η) (k d i : Int32) (hj : (jin k (σ 12 3) && jin d 4 && decide (0 ≤ i.toInt)) = false) : jj_HX mX6_fitting [.ref (X 0), .int k, .int d, .int i] η 1 6 (fun _ _ => False) (fun E => E = eI) := by
  have h0 := h.2.2.1
  refine jj_gx tok_X6_fitting zok_X6 py_6 rfl 40 fun J => ?_
  cases hk : jin k (σ 12 3) with
  | false =>
    refine ⟨_, h0, 0, 0, _, c_stampN_none h k hk, Nat.zero_le _, Nat.zero_le _, fun v η' hv => ?_⟩
    obtain ⟨rfl, rfl⟩ := hv
    exact ⟨⟨rfl, rfl⟩, Nat.le_refl _, Nat.le_refl _⟩
  | true =>
    obtain ⟨k, rfl, hk2, -⟩ := jin_of hk
    refine ⟨_, h0, 0, 0, _, c_stampN_some h k hk2, Nat.zero_le _, Nat.zero_le _, fun v η' hv => ?_⟩
    obtain ⟨rfl, rfl⟩ := hv
    refine ⟨0, 0, _, c_isSide η' _, Nat.zero_le _, Nat.zero_le _, fun v η'' hv => ?_⟩
    obtain ⟨rfl, rfl⟩ := hv
    refine ⟨fun c1 => ⟨⟨rfl, rfl⟩, Nat.le_refl _, Nat.le_refl _⟩, fun c1 => ⟨fun c2 => ?_, fun c2 => ⟨⟨rfl, rfl⟩, Nat.le_refl _, Nat.le_refl _⟩⟩⟩
    have c1 := b01_ne0 c1
    rw [cb_ge, i0] at c2
    rw [hk, c1] at hj
    simp at hj
    omega
