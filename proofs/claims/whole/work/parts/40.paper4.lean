theorem f_addPaper_ok {X : Nat → Nat} {α : Nat → Nat → Nat} {τ : Nat → Nat} {σ : jj_S} {η : jj_H} (h : x_rep X α τ σ η) (w k : Nat) (hw : 1 ≤ w ∧ w ≤ 4) (hk : 1 ≤ k ∧ k ≤ 4) (hn : σ 12 1 < 4) : jj_HX mX6_addPaper [.ref (X 0), .int (nI w), .int (nI k)] η 1 3 (fun v η' => v = some (.int (nI (σ 12 1))) ∧ (∃ α' τ', x_rep X α' τ' (s_pap σ w k) η' ∧ ∀ b, η b ≠ none → τ' b = τ b) ∧ x_fr τ η η') (fun _ => False) := by
  have h0 := h.2.2.1
  obtain ⟨f, hf, hff⟩ := h.2.2.2.2.1
  have e1 : (nI 1).toInt = 1 := rfl
  have e4 : (nI 4).toInt = 4 := rfl
  have n02 : X 0 ≠ X 2 := (x_tag.ap h.1 h.2.1).1 0 2 (by decide) (by decide) (by decide)
  refine jj_gx tok_X6_addPaper zok_X6 py_6 rfl 60 fun J => ?_
  refine ⟨0, 0, _, c_isOutside η _ _ _, Nat.zero_le _, Nat.zero_le _, fun v η' hv => ?_⟩
  obtain ⟨rfl, rfl⟩ := hv
  refine ⟨fun c1 => ?_, fun c1 => ⟨0, 0, _, c_isOutside η' _ _ _, Nat.zero_le _, Nat.zero_le _, fun v η'' hv => ?_⟩⟩
  · have c1 := b01_ne0 c1
    rw [e1, e4, iN (by omega)] at c1
    simp at c1
    omega
  obtain ⟨rfl, rfl⟩ := hv
  refine ⟨fun c2 => ⟨_, h0, _, h0, _, _, _, hf, fun c3 => ⟨_, h0, _, h0, by decide, by decide, fun q hq => ?_⟩, fun c3 => ?_⟩, fun c2 => ?_⟩
  · have q0 : X 0 ≠ q := fun z => h.stands.1 0 (by decide) (by rw [z]; exact hq)
    have q2 : X 2 ≠ q := fun z => h.stands.1 2 (by decide) (by rw [z]; exact hq)
    refine ⟨0, 0, _, c_paper_init _ q (nI (σ 12 1)) (nI w) (nI k) _ _ _ up_s, by decide, by decide, fun v η1 hv => ?_⟩
    obtain ⟨rfl, g1, g2⟩ := hv
    have h02 : η1 (X 0) = _ := (g2 _ q0).trans ((up_n q0).trans h0)
    have hf2 : η1 (X 2) = _ := (g2 _ q2).trans ((up_n q2).trans hf)
    refine ⟨_, _, _, σ 12 1, _, hf2, g1, rfl, hn, _, (up_n n02).trans h02, _, (up_n n02).trans h02, trivial, ⟨rfl, ⟨_, _, h.pap hn hw hk hq ?_ ⟨_, (up_n (Ne.symm n02)).trans up_s, fun i hi => ?_⟩ ?_ fun b b0 b2 b3 => ?_, fun b hb => ?_⟩, fun b hb b1 b2 => ?_⟩, by decide, by decide⟩
    · rw [← nI_add (σ 12 1) 1]
      exact up_s
    · by_cases z : i = σ 12 1
      · rw [z, va_up_s, if_pos (by omega), a_new_s]
      · rw [va_up_n z, hff i hi, a_new_n _ _ _ _ (Or.inr z)]
        by_cases y : i < σ 12 1
        · rw [if_pos y, if_pos (by omega)]
        · rw [if_neg y, if_neg (by omega)]
    · exact (up_n (Ne.symm q0)).trans ((up_n (Ne.symm q2)).trans g1)
    · exact (up_n b0).trans ((up_n b2).trans ((g2 b b3).trans (up_n b3)))
    · exact if_neg fun z => hb (by rw [z]; exact hq)
    · have t0 := h.2.1.1 0 (by decide)
      have t2 := h.2.1.1 2 (by decide)
      have b3 : b ≠ q := fun z => hb (by rw [z]; exact hq)
      have b0 : b ≠ X 0 := fun z => by rw [← z] at t0; omega
      have b2 : b ≠ X 2 := fun z => by rw [← z] at t2; omega
      exact (up_n b0).trans ((up_n b2).trans ((g2 b b3).trans (up_n b3)))
  · rw [cb_lt, iN (by omega), e4] at c3
    omega
  · have c2 := b01_ne0 c2
    rw [e1, e4, iN (by omega)] at c2
    simp at c2
    omega
