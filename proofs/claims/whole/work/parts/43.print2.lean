/-! THE FACE: A NEW SHEET -/
def s_prv (p w r z j : Nat) : Nat := match j with
  | 0 => p
  | 1 => w
  | 2 => r
  | 3 => z
  | 4 => 0
  | 5 => 0
  | _ => 10
def s_prn (σ : jj_S) (p w r z : Nat) : jj_S := fun g j => bif Nat.beq g 6 && (Nat.ble (8 * σ 12 2) j && Nat.blt j (8 * σ 12 2 + 8)) then s_prv p w r z (j - 8 * σ 12 2) else bif Nat.beq g 12 && Nat.beq j 2 then σ 12 2 + 1 else σ g j
theorem s_prn_n (σ : jj_S) (p w r z : Nat) {j : Nat} (h : j < 8 * σ 12 2) : s_prn σ p w r z 6 j = σ 6 j := by
  have e : Nat.ble (8 * σ 12 2) j = false := by
    cases hb : Nat.ble (8 * σ 12 2) j with
    | false => rfl
    | true => exact absurd (Nat.le_of_ble_eq_true hb) (by omega)
  show (bif true && (Nat.ble (8 * σ 12 2) j && Nat.blt j (8 * σ 12 2 + 8)) then _ else _) = _
  rw [e]
  rfl
theorem s_prn_s (σ : jj_S) (p w r z : Nat) {e : Nat} (h : e < 8) : s_prn σ p w r z 6 (8 * σ 12 2 + e) = s_prv p w r z e := by
  have e1 : Nat.ble (8 * σ 12 2) (8 * σ 12 2 + e) = true := Nat.ble_eq_true_of_le (by omega)
  have e2 : Nat.blt (8 * σ 12 2 + e) (8 * σ 12 2 + 8) = true := Nat.ble_eq_true_of_le (by omega)
  show (bif true && (Nat.ble (8 * σ 12 2) (8 * σ 12 2 + e) && Nat.blt (8 * σ 12 2 + e) (8 * σ 12 2 + 8)) then s_prv p w r z (8 * σ 12 2 + e - 8 * σ 12 2) else _) = _
  rw [e1, e2, Nat.add_sub_cancel_left]
  rfl
theorem s_prn_12 (σ : jj_S) (p w r z : Nat) : s_prn σ p w r z 12 2 = σ 12 2 + 1 := rfl
theorem x_rep.prn {X : Nat → Nat} {α : Nat → Nat → Nat} {τ : Nat → Nat} {σ : jj_S} {η η' : jj_H} (h : x_rep X α τ σ η) {p w r z q : Nat} (hn : σ 12 2 < 10) (hp : p < σ 12 0) (hw : w < σ 12 1) (hr : r ≤ 999) (hz : z ≤ 9999) (hq : η q = none)
    (g0 : η' (X 0) = some (x_o 6 [.ref (X 1), .ref (X 2), .ref (X 3), .ref (X 4), .ref (X 5), .ref (X 6), .int (nI (σ 12 0)), .int (nI (σ 12 1)), .int (nI (σ 12 2 + 1)), .int (nI (σ 12 3))]))
    (g2 : ∃ f, η' (X 3) = some (x_r 5 10 f) ∧ ∀ i, i < 10 → f i = if i < σ 12 2 + 1 then some (a_new α 5 (σ 12 2) q 5 i) else none)
    (g3 : η' q = some (x_o 4 [.ref (α 0 p), .ref (α 4 w), .int (nI r), .int (nI z), .int (nI 0), .int (nI 0), .int (nI 10), .int (nI 10), .long (lN 0)]))
    (g1 : ∀ b, b ≠ X 0 → b ≠ X 3 → b ≠ q → η' b = η b) : x_rep X (a_new α 5 (σ 12 2) q) (t_new τ q (6000 + σ 12 2)) (s_prn σ p w r z) η' := by
  obtain ⟨s1, s2⟩ := h.stands
  obtain ⟨ok, tag, h0, h1, h2, h3, h4, ⟨a1, a2⟩, h6, hpp, hpw, hs, hst⟩ := h
  obtain ⟨p1, p2, p3⟩ := x_tag.ap ok tag
  have qX : ∀ j, j < 8 → X j ≠ q := fun j hj z => s1 j hj (by rw [z]; exact hq)
  have qα : ∀ f i, s_live σ f i → α f i ≠ q := fun f i hl z => s2 f i hl (by rw [z]; exact hq)
  have aX : ∀ j, j < 8 → j ≠ 0 → j ≠ 3 → η' (X j) = η (X j) := fun j hj z z2 => g1 _ (p1 j 0 hj (by decide) z) (p1 j 3 hj (by decide) z2) (qX j hj)
  have aα : ∀ f i, s_live σ f i → η' (α f i) = η (α f i) := fun f i hl => g1 _ (Ne.symm (p2 0 f i (by decide) hl)) (Ne.symm (p2 3 f i (by decide) hl)) (qα f i hl)
  have nα : ∀ f i, s_live σ f i → a_new α 5 (σ 12 2) q f i = α f i := fun f i hl => a_new_n α _ _ _ (by
    by_cases z : f = 5
    · subst z
      have hl : i < σ 12 2 := hl
      exact Or.inr (by omega)
    · exact Or.inl z)
  have o5 := ok.2.2.2.2.1
  have o4 := ok.2.2.2.1
  have v6 : ∀ s, s < σ 12 2 → ∀ e, e < 8 → s_prn σ p w r z 6 (8 * s + e) = σ 6 (8 * s + e) := fun s hs e he => s_prn_n σ p w r z (by omega)
  have v60 : ∀ s, s < σ 12 2 → s_prn σ p w r z 6 (8 * s) = σ 6 (8 * s) := fun s hs => s_prn_n σ p w r z (by omega)
  have w6 : ∀ e, e < 8 → s_prn σ p w r z 6 (8 * σ 12 2 + e) = s_prv p w r z e := fun e he => s_prn_s σ p w r z he
  have w60 : s_prn σ p w r z 6 (8 * σ 12 2) = p := s_prn_s σ p w r z (e := 0) (by omega)
  refine ⟨?_, ⟨fun j hj => ?_, fun f i hl => ?_⟩, ?_, ?_, ?_, ?_, ?_, ⟨(aX 5 (by decide) (by decide) (by decide)).trans a1, ?_⟩, ?_, fun p' hp2 => ?_, fun i hi => ?_, fun s hs2 => ?_, fun j hj => ?_⟩
  · obtain ⟨⟨c1, c2, c3, c4⟩, o2, o3, o4, o5, o6, o7⟩ := ok
    refine ⟨⟨c1, c2, by rw [s_prn_12]; omega, c4⟩, o2, o3, fun s hs' => ?_, fun k hk => ?_, o6, o7⟩
    · rw [s_prn_12] at hs'
      by_cases y : s = σ 12 2
      · rw [y, w60, w6 1 (by omega), w6 2 (by omega), w6 3 (by omega), w6 4 (by omega), w6 5 (by omega), w6 6 (by omega), w6 7 (by omega)]
        exact ⟨hp, hw, hr, hz, (by decide : 0 ≤ 3), (by decide : 0 ≤ 3), ⟨(by decide : 5 ≤ 10), (by decide : 10 ≤ 16)⟩, (by decide : 5 ≤ 10), (by decide : 10 ≤ 16)⟩
      · have y2 : s < σ 12 2 := by omega
        rw [v60 s y2, v6 s y2 1 (by omega), v6 s y2 2 (by omega), v6 s y2 3 (by omega), v6 s y2 4 (by omega), v6 s y2 5 (by omega), v6 s y2 6 (by omega), v6 s y2 7 (by omega)]
        exact o4 s y2
    · obtain ⟨b1, b2, b3, b4, b5⟩ := o5 k hk
      have e0 : s_pl (s_prn σ p w r z) k = s_pl σ k := v60 _ b1
      refine ⟨Nat.lt_succ_of_lt b1, by rw [e0]; exact b2, by rw [e0]; exact b3, b4, fun d hd => ?_⟩
      have e1 : s_all (s_prn σ p w r z) k d = s_all σ k d := congrArg (fun x => 2 ^ x - 1) (v6 _ b1 (6 + d % 2) (by omega))
      rw [e1]
      exact b5 d hd
  · unfold t_new
    rw [if_neg (qX j hj)]
    exact tag.1 j hj
  · by_cases y : f = 5 ∧ i = σ 12 2
    · obtain ⟨rfl, rfl⟩ := y
      rw [a_new_s]
      unfold t_new
      rw [if_pos rfl]
    · have hl2 : s_live σ f i := by
        by_cases x : f = 5
        · subst x
          have hl : i < s_prn σ p w r z 12 2 := hl
          rw [s_prn_12] at hl
          show i < σ 12 2
          have : i ≠ σ 12 2 := fun e => y ⟨rfl, e⟩
          omega
        · unfold s_live at hl ⊢
          split at hl <;> first | exact absurd rfl x | exact hl
      rw [nα f i hl2]
      unfold t_new
      rw [if_neg (qα f i hl2)]
      exact tag.2 f i hl2
  · rw [s_prn_12]
    exact g0
  · obtain ⟨f, f1, f2⟩ := h1
    refine ⟨f, (aX 1 (by decide) (by decide) (by decide)).trans f1, fun i hi => (f2 i hi).trans ?_⟩
    by_cases y : i < σ 12 0
    · rw [if_pos y]
      exact (if_pos y).symm
    · rw [if_neg y]
      exact (if_neg y).symm
  · rw [aX 2 (by decide) (by decide) (by decide)]
    exact h2
  · rw [s_prn_12]
    exact g2
  · rw [aX 4 (by decide) (by decide) (by decide)]
    exact h4
  · rw [aX 7 (by decide) (by decide) (by decide)]
    exact a2
  · rw [aX 6 (by decide) (by decide) (by decide)]
    exact h6
  · have hf := (ok.2.1 p' hp2).1.2.2.2.2
    have l3 : ∀ j, j < σ 2 p' → s_live σ 3 (10 * p' + j) := fun j hj => by
      have e1 : (10 * p' + j) / 10 = p' := by omega
      have e2 : (10 * p' + j) % 10 = j := by omega
      show (10 * p' + j) / 10 < σ 12 0 ∧ (10 * p' + j) % 10 < σ 2 ((10 * p' + j) / 10)
      rw [e1, e2]
      exact ⟨hp2, hj⟩
    exact x_plate.k (σ := σ) rfl rfl rfl (fun _ _ _ _ => rfl) hf (nα 0 p' hp2) (nα 1 p' hp2) (nα 2 p' hp2) (fun j hj => nα 3 _ (l3 j hj)) (aα 0 p' hp2) (aα 1 p' hp2) (aα 2 p' hp2) (fun j hj => aα 3 _ (l3 j hj)) (hpp p' hp2)
  · rw [nα 4 i hi, aα 4 i hi]
    exact hpw i hi
  · rw [s_prn_12] at hs2
    by_cases y : s = σ 12 2
    · have no : ∀ k, k < σ 12 3 → σ 7 k ≠ σ 12 2 := fun k hk e => by have := (o5 k hk).1; omega
      refine ⟨0, by decide, ?_, fun a c _ _ => ⟨fun z => absurd ((Nat.zero_testBit _).symm.trans z) (by decide), fun ⟨k, k1, k2, _⟩ => absurd (k2.trans y) (no k k1)⟩, fun _ k hk => by rw [y]; exact no k hk, fun _ => rfl⟩
      rw [y, a_new_s, w60, w6 1 (by omega), w6 2 (by omega), w6 3 (by omega), w6 4 (by omega), w6 5 (by omega), w6 6 (by omega), w6 7 (by omega)]
      exact g3.trans (by rw [← nα 0 p hp, ← nα 4 w hw]; rfl)
    · have y2 : s < σ 12 2 := by omega
      have b := o4 s y2
      exact x_sheet.k (σ := σ) (v6 s y2) rfl (fun _ _ => ⟨rfl, rfl, rfl⟩) (nα 0 _ b.1) (nα 4 _ b.2.1) (nα 5 s y2) (aα 5 s y2) (hs s y2)
  · have b := o5 j hj
    have e1 : s_pa (s_prn σ p w r z) j = s_pa σ j := v6 _ b.1 1 (by omega)
    have e4 : s_prn σ p w r z 6 (8 * σ 7 j + 4) = σ 6 (8 * σ 7 j + 4) := v6 _ b.1 4 (by omega)
    have e5 : s_prn σ p w r z 6 (8 * σ 7 j + 5) = σ 6 (8 * σ 7 j + 5) := v6 _ b.1 5 (by omega)
    have m1 : s_mr (s_prn σ p w r z) j = s_mr σ j := by
      show (σ 8 j + s_prn σ p w r z 6 (8 * σ 7 j + 4)) % σ 5 (s_pa (s_prn σ p w r z) j) = (σ 8 j + σ 6 (8 * σ 7 j + 4)) % σ 5 (s_pa σ j)
      rw [e1, e4]
    have m2 : s_mc (s_prn σ p w r z) j = s_mc σ j := by
      show (σ 9 j + s_prn σ p w r z 6 (8 * σ 7 j + 5)) % σ 4 (s_pa (s_prn σ p w r z) j) = (σ 9 j + σ 6 (8 * σ 7 j + 5)) % σ 4 (s_pa σ j)
      rw [e1, e5]
    exact x_stamp.k (σ := σ) rfl rfl rfl m1 m2 (fun _ _ => rfl) rfl (nα 5 _ b.1) (nα 6 j hj) (nα 7 j hj) (aα 6 j hj) (aα 7 j hj) (hst j hj)
theorem f_print_ok {X : Nat → Nat} {α : Nat → Nat → Nat} {τ : Nat → Nat} {σ : jj_S} {η : jj_H} (h : x_rep X α τ σ η) (p w r s : Nat) (hp : p < σ 12 0) (hw : w < σ 12 1) (hr : r < 1000) (hs : s < 10000) (hn : σ 12 2 < 10) : jj_HX mX6_print [.ref (X 0), .int (nI p), .int (nI w), .int (nI r), .int (nI s)] η 1 9 (fun v η' => v = some (.int (nI (σ 12 2))) ∧ (∃ α' τ', x_rep X α' τ' (s_prn σ p w r s) η' ∧ ∀ b, η b ≠ none → τ' b = τ b) ∧ x_fr τ η η') (fun _ => False) := by
  have h0 := h.2.2.1
  obtain ⟨f, hf, hff⟩ := h.2.2.2.2.2.1
  have e1 : (nI 999).toInt = 999 := rfl
  have e8 : (nI 9999).toInt = 9999 := rfl
  have e10 : (nI 10).toInt = 10 := rfl
  have n02 : X 0 ≠ X 3 := (x_tag.ap h.1 h.2.1).1 0 3 (by decide) (by decide) (by decide)
  refine jj_gx tok_X6_print zok_X6 py_6 rfl 60 fun J => ?_
  refine ⟨_, h0, 0, 0, _, c_plateN_some h p hp, Nat.zero_le _, Nat.zero_le _, fun v η' hv => ?_⟩
  obtain ⟨rfl, rfl⟩ := hv
  refine ⟨_, h0, 0, 0, _, c_paperN_some h w hw, Nat.zero_le _, Nat.zero_le _, fun v η'' hv => ?_⟩
  obtain ⟨rfl, rfl⟩ := hv
  refine ⟨0, 0, _, c_isOutside η'' _ _ _, Nat.zero_le _, Nat.zero_le _, fun v η' hv => ?_⟩
  obtain ⟨rfl, rfl⟩ := hv
  refine ⟨fun c1 => ?_, fun c1 => ⟨0, 0, _, c_isOutside η' _ _ _, Nat.zero_le _, Nat.zero_le _, fun v η'' hv => ?_⟩⟩
  · have c1 := b01_ne0 c1
    rw [i0, e1, iN (by omega)] at c1
    simp at c1
    omega
  obtain ⟨rfl, rfl⟩ := hv
  refine ⟨fun c2 => ⟨_, h0, _, h0, _, _, _, hf, fun c3 => ⟨_, h0, _, h0, by decide, by decide, fun q hq => ?_⟩, fun c3 => ?_⟩, fun c2 => ?_⟩
  · have q0 : X 0 ≠ q := fun z => h.stands.1 0 (by decide) (by rw [z]; exact hq)
    have q3 : X 3 ≠ q := fun z => h.stands.1 3 (by decide) (by rw [z]; exact hq)
    refine ⟨0, 0, _, c_sheet_init _ q (α 0 p) (α 4 w) (nI r) (nI s) up_s, by decide, by decide, fun v η1 hv => ?_⟩
    obtain ⟨rfl, g1, g2⟩ := hv
    have h02 : η1 (X 0) = _ := (g2 _ q0).trans ((up_n q0).trans h0)
    have hf2 : η1 (X 3) = _ := (g2 _ q3).trans ((up_n q3).trans hf)
    refine ⟨_, _, _, σ 12 2, _, hf2, g1, rfl, hn, _, (up_n n02).trans h02, _, (up_n n02).trans h02, trivial, ⟨rfl, ⟨_, _, h.prn hn hp hw (by omega) (by omega) hq ?_ ⟨_, (up_n (Ne.symm n02)).trans up_s, fun i hi => ?_⟩ ?_ fun b b0 b2 b3 => ?_, fun b hb => ?_⟩, fun b hb b1 b2 => ?_⟩, by decide, by decide⟩
    · rw [← nI_add (σ 12 2) 1]
      exact up_s
    · by_cases z : i = σ 12 2
      · rw [z, va_up_s, if_pos (by omega), a_new_s]
      · rw [va_up_n z, hff i hi, a_new_n _ _ _ _ (Or.inr z)]
        by_cases y : i < σ 12 2
        · rw [if_pos y, if_pos (by omega)]
        · rw [if_neg y, if_neg (by omega)]
    · exact (up_n (Ne.symm q0)).trans ((up_n (Ne.symm q3)).trans g1)
    · exact (up_n b0).trans ((up_n b2).trans ((g2 b b3).trans (up_n b3)))
    · exact if_neg fun z => hb (by rw [z]; exact hq)
    · have t0 := h.2.1.1 0 (by decide)
      have t2 := h.2.1.1 3 (by decide)
      have b3 : b ≠ q := fun z => hb (by rw [z]; exact hq)
      have b0 : b ≠ X 0 := fun z => by rw [← z] at t0; omega
      have b2 : b ≠ X 3 := fun z => by rw [← z] at t2; omega
      exact (up_n b0).trans ((up_n b2).trans ((g2 b b3).trans (up_n b3)))
  · rw [cb_lt, iN (by omega), e10] at c3
    omega
  · have c2 := b01_ne0 c2
    rw [i0, e8, iN (by omega)] at c2
    simp at c2
    omega
