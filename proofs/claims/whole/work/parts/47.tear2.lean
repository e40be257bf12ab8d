theorem f_tear_ok {X : Nat → Nat} {α : Nat → Nat → Nat} {τ : Nat → Nat} {σ : jj_S} {η : jj_H} (h : x_rep X α τ σ η) (s r c : Nat) (hs : s < σ 12 2) (hr : r < σ 0 (σ 6 (8 * s))) (hc : c < σ 1 (σ 6 (8 * s))) (hno : ∀ k, k < σ 12 3 → σ 7 k = s → σ 8 k = r → σ 9 k = c → False) (hn : σ 12 3 < 40) : jj_HX mX6_tear [.ref (X 0), .int (nI s), .int (nI r), .int (nI c)] η 2 12 (fun v η' => v = some (.int (nI (σ 12 3))) ∧ (∃ α' τ', x_rep X α' τ' (s_tea σ s r c) η' ∧ ∀ b, η b ≠ none → τ' b = τ b) ∧ x_fr τ η η') (fun _ => False) := by
  have h0 := h.2.2.1
  obtain ⟨f, hf, hff⟩ := h.2.2.2.2.2.2.1
  obtain ⟨t, t1, t2, t3, t4⟩ := h.sheet hs
  obtain ⟨b1, b2, b3, b4, b5, b6, b7, b8, b9⟩ := h.1.2.2.2.1 s hs
  have pl := (h.plate b1).1
  have pa := h.paper b2
  have r8 := (h.1.2.1 _ b1).1
  have w8 := h.1.2.2.1 _ b2
  have e40 : (nI 40).toInt = 40 := rfl
  have ap := x_tag.ap h.1 h.2.1
  have n04 : X 0 ≠ X 4 := ap.1 0 4 (by decide) (by decide) (by decide)
  have n05 : X 0 ≠ α 5 s := ap.2.1 0 5 s (by decide) hs
  have n45 : X 4 ≠ α 5 s := ap.2.1 4 5 s (by decide) hs
  refine jj_gx tok_X6_tear zok_X6 py_6 rfl 120 fun J => ?_
  refine ⟨_, h0, 0, 0, _, c_sheetN_some h s hs, Nat.zero_le _, Nat.zero_le _, fun v η' hv => ?_⟩
  obtain ⟨rfl, rfl⟩ := hv
  refine ⟨_, t2, _, pl, 0, 0, _, c_hp_in η' _ _ _ r c (nI r) (nI c) _ _ _ pl (by omega) (by omega) hr hc rfl rfl, Nat.zero_le _, Nat.zero_le _, fun v η'' hv => ?_⟩
  obtain ⟨rfl, rfl⟩ := hv
  refine ⟨fun c1 => ?_, fun c1 => absurd (Classical.not_not.mp c1) (by decide)⟩
  refine ⟨_, t2, 0, 0, _, c_isTorn η'' _ t r c _ _ _ _ _ _ _ _ t2 t1 (by omega) (by omega), Nat.zero_le _, Nat.zero_le _, fun v η' hv => ?_⟩
  obtain ⟨rfl, rfl⟩ := hv
  have tb : t.testBit (8 * r + c) = false := by
    cases hb : t.testBit (8 * r + c) with
    | false => rfl
    | true =>
      obtain ⟨k, k1, k2, k3, k4⟩ := (t3 r c (by omega) (by omega)).mp hb
      exact (hno k k1 k2 k3 k4).elim
  refine ⟨fun c2 => ?_, fun c2 => ⟨_, h0, _, h0, _, _, _, hf, fun c3 => ⟨_, h0, _, h0, by decide, by decide, fun q hq => ?_⟩, fun c3 => ?_⟩⟩
  · rw [tb] at c2
    exact absurd rfl c2
  · have q0 : X 0 ≠ q := fun z => h.stands.1 0 (by decide) (by rw [z]; exact hq)
    have q4 : X 4 ≠ q := fun z => h.stands.1 4 (by decide) (by rw [z]; exact hq)
    have qs : α 5 s ≠ q := fun z => h.stands.2 5 s hs (by rw [z]; exact hq)
    have qp : α 0 (σ 6 (8 * s)) ≠ q := fun z => h.stands.2 0 _ b1 (by rw [z]; exact hq)
    have qw : α 4 (σ 6 (8 * s + 1)) ≠ q := fun z => h.stands.2 4 _ b2 (by rw [z]; exact hq)
    refine ⟨1, 4, _, c_stamp_init _ q (α 5 s) (α 0 (σ 6 (8 * s))) (α 4 (σ 6 (8 * s + 1))) (σ 6 (8 * s + 6)) (σ 6 (8 * s + 7)) (σ 6 (8 * s + 3)) (σ 0 (σ 6 (8 * s))) (σ 1 (σ 6 (8 * s))) (σ 4 (σ 6 (8 * s + 1))) (σ 5 (σ 6 (8 * s + 1))) (σ 6 (8 * s + 4)) (σ 6 (8 * s + 5)) r c (nI (σ 12 3)) _ _ _ _ _ _ up_s ((up_n qs).trans t2) ((up_n qp).trans pl) ((up_n qw).trans pa) (by omega) (by omega) (by omega) (by omega) (by omega) (by omega) hr hc (by omega) (by omega) b5 b6 qs qp qw, by decide, by decide, fun v η1 hv => ?_⟩
    obtain ⟨rfl, q1, F, n1, g3, g4, g6, g2⟩ := hv
    obtain ⟨m1, n1⟩ := up_none n1
    have a0 : X 0 ≠ q1 := fun z => h.stands.1 0 (by decide) (by rw [z]; exact n1)
    have a4 : X 4 ≠ q1 := fun z => h.stands.1 4 (by decide) (by rw [z]; exact n1)
    have as : α 5 s ≠ q1 := fun z => h.stands.2 5 s hs (by rw [z]; exact n1)
    have h02 : η1 (X 0) = _ := (g2 _ q0 a0).trans ((up_n q0).trans h0)
    have hf2 : η1 (X 4) = _ := (g2 _ q4 a4).trans ((up_n q4).trans hf)
    have ht2 : η1 (α 5 s) = _ := (g2 _ qs as).trans ((up_n qs).trans t2)
    refine ⟨_, _, _, σ 12 3, _, hf2, g3, rfl, hn, _, (up_n n04).trans h02, _, (up_n n04).trans h02, ?_⟩
    refine ⟨_, (up_n (Ne.symm n05)).trans ((up_n (Ne.symm n45)).trans ht2), 0, 0, _, c_noteTorn _ _ t r c _ _ _ _ _ _ _ _ ((up_n (Ne.symm n05)).trans ((up_n (Ne.symm n45)).trans ht2)) (by omega) (by omega), by decide, by decide, fun v η2 hv => ?_⟩
    obtain ⟨rfl, rfl⟩ := hv
    refine ⟨trivial, ⟨rfl, ⟨_, _, h.tea (F := F) (t := t) hn hs hr hc hno hq n1 (Ne.symm m1) t1 t3 ?_ ⟨_, (up_n n45).trans ((up_n (Ne.symm n04)).trans up_s), fun i hi => ?_⟩ ?_ ?_ g6 up_s fun b x0 x1 x2 x3 x4 => ?_, fun b hb => ?_⟩, fun b hb x1 x2 => ?_⟩, by decide, by decide⟩
    · rw [← nI_add (σ 12 3) 1]
      exact (up_n n05).trans up_s
    · by_cases z : i = σ 12 3
      · rw [z, va_up_s, if_pos (by omega), a_new_s]
      · rw [va_up_n z, hff i hi, a_new_n _ _ _ _ (Or.inr z)]
        by_cases y : i < σ 12 3
        · rw [if_pos y, if_pos (by omega)]
        · rw [if_neg y, if_neg (by omega)]
    · exact (up_n (Ne.symm qs)).trans ((up_n (Ne.symm q0)).trans ((up_n (Ne.symm q4)).trans g3))
    · exact (up_n (Ne.symm as)).trans ((up_n (Ne.symm a0)).trans ((up_n (Ne.symm a4)).trans g4))
    · exact (up_n x4).trans ((up_n x0).trans ((up_n x1).trans ((g2 b x2 x3).trans (up_n x2))))
    · have x0 : b ≠ q := fun z => hb (by rw [z]; exact hq)
      have x1 : b ≠ q1 := fun z => hb (by rw [z]; exact n1)
      show (if _ then _ else if _ then _ else _) = _
      rw [if_neg x1, if_neg x0]
    · have t0 := h.2.1.1 0 (by decide)
      have t4 := h.2.1.1 4 (by decide)
      have t5 := h.2.1.2 5 s hs
      have y0 : b ≠ X 0 := fun z => by rw [← z] at t0; omega
      have y1 : b ≠ X 4 := fun z => by rw [← z] at t4; omega
      have y2 : b ≠ α 5 s := fun z => by rw [← z] at t5; omega
      have y3 : b ≠ q := fun z => hb (by rw [z]; exact hq)
      have y4 : b ≠ q1 := fun z => hb (by rw [z]; exact n1)
      exact (up_n y2).trans ((up_n y0).trans ((up_n y1).trans ((g2 b y3 y4).trans (up_n y3))))
  · rw [cb_lt, iN (by omega), e40] at c3
    omega
theorem f_tear_x1 {X : Nat → Nat} {α : Nat → Nat → Nat} {τ : Nat → Nat} {σ : jj_S} {η : jj_H} (h : x_rep X α τ σ η) (s r c : Int32) (hj : ∀ s', s = nI s' → s' < σ 12 2 → (jin r (σ 0 (σ 6 (8 * s'))) && jin c (σ 1 (σ 6 (8 * s')))) = false) : jj_HX mX6_tear [.ref (X 0), .int s, .int r, .int c] η 1 6 (fun _ _ => False) (fun E => E = eI) := by
  have h0 := h.2.2.1
  cases hs : jin s (σ 12 2) with
  | false =>
    refine jj_gx tok_X6_tear zok_X6 py_6 rfl 120 fun J => ?_
    refine ⟨_, h0, 0, 0, _, c_sheetN_none h s hs, Nat.zero_le _, Nat.zero_le _, fun v η' hv => ?_⟩
    obtain ⟨rfl, rfl⟩ := hv
    exact ⟨⟨rfl, rfl⟩, Nat.le_refl _, Nat.le_refl _⟩
  | true =>
    obtain ⟨s, rfl, hs2, -⟩ := jin_of hs
    have hj := hj s rfl hs2
    obtain ⟨t, t1, t2, t3, t4⟩ := h.sheet hs2
    have b1 := (h.1.2.2.2.1 s hs2).1
    have pl := (h.plate b1).1
    have r8 := (h.1.2.1 _ b1).1
    refine jj_gx tok_X6_tear zok_X6 py_6 rfl 120 fun J => ?_
    refine ⟨_, h0, 0, 0, _, c_sheetN_some h s hs2, Nat.zero_le _, Nat.zero_le _, fun v η' hv => ?_⟩
    obtain ⟨rfl, rfl⟩ := hv
    refine ⟨_, t2, _, pl, 0, 0, _, c_hp_out η' _ _ _ r c _ _ _ pl (by omega) (by omega) (by
      simp [jin] at hj
      omega), Nat.zero_le _, Nat.zero_le _, fun v η'' hv => ?_⟩
    obtain ⟨rfl, rfl⟩ := hv
    exact ⟨fun c1 => absurd rfl c1, fun c1 => ⟨⟨rfl, rfl⟩, Nat.le_refl _, Nat.le_refl _⟩⟩
theorem f_tear_x2 {X : Nat → Nat} {α : Nat → Nat → Nat} {τ : Nat → Nat} {σ : jj_S} {η : jj_H} (h : x_rep X α τ σ η) (s r c : Nat) (hs : s < σ 12 2) (hr : r < σ 0 (σ 6 (8 * s))) (hc : c < σ 1 (σ 6 (8 * s))) (hx : (∃ k, k < σ 12 3 ∧ σ 7 k = s ∧ σ 8 k = r ∧ σ 9 k = c) ∨ σ 12 3 = 40) : jj_HX mX6_tear [.ref (X 0), .int (nI s), .int (nI r), .int (nI c)] η 1 6 (fun _ _ => False) (fun E => E = eS) := by
  have h0 := h.2.2.1
  obtain ⟨f, hf, hff⟩ := h.2.2.2.2.2.2.1
  obtain ⟨t, t1, t2, t3, t4⟩ := h.sheet hs
  have b1 := (h.1.2.2.2.1 s hs).1
  have pl := (h.plate b1).1
  have r8 := (h.1.2.1 _ b1).1
  have e40 : (nI 40).toInt = 40 := rfl
  refine jj_gx tok_X6_tear zok_X6 py_6 rfl 120 fun J => ?_
  refine ⟨_, h0, 0, 0, _, c_sheetN_some h s hs, Nat.zero_le _, Nat.zero_le _, fun v η' hv => ?_⟩
  obtain ⟨rfl, rfl⟩ := hv
  refine ⟨_, t2, _, pl, 0, 0, _, c_hp_in η' _ _ _ r c (nI r) (nI c) _ _ _ pl (by omega) (by omega) hr hc rfl rfl, Nat.zero_le _, Nat.zero_le _, fun v η'' hv => ?_⟩
  obtain ⟨rfl, rfl⟩ := hv
  refine ⟨fun c1 => ?_, fun c1 => absurd (Classical.not_not.mp c1) (by decide)⟩
  refine ⟨_, t2, 0, 0, _, c_isTorn η'' _ t r c _ _ _ _ _ _ _ _ t2 t1 (by omega) (by omega), Nat.zero_le _, Nat.zero_le _, fun v η' hv => ?_⟩
  obtain ⟨rfl, rfl⟩ := hv
  refine ⟨fun c2 => ⟨⟨rfl, rfl⟩, Nat.le_refl _, Nat.le_refl _⟩, fun c2 => ⟨_, h0, _, h0, _, _, _, hf, fun c3 => ?_, fun c3 => ⟨⟨rfl, rfl⟩, Nat.le_refl _, Nat.le_refl _⟩⟩⟩
  have c2 := b01_eq0 (Classical.not_not.mp c2)
  rcases hx with hx | hx
  · rw [(t3 r c (by omega) (by omega)).mpr hx] at c2
    cases c2
  · rw [cb_lt, hx, e40] at c3
    omega
