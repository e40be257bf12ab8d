/-! THE ALBUM: the best place; putting and taking -/
/-- over the first n places: the most stamps beside, and the first such place and 1 (0: none yet) -/
def s_bst (σ : jj_S) (k : Nat) : Nat → Nat × Nat
  | 0 => (0, 0)
  | n + 1 => match s_at σ n with
    | some _ => s_bst σ k n
    | none => match s_bs σ k (n / 8) (n % 8) 4 with
      | none => s_bst σ k n
      | some m => if (s_bst σ k n).1 < m then (m, n + 1) else s_bst σ k n
theorem s_bst_le {σ : jj_S} {k : Nat} : ∀ n, (s_bst σ k n).1 ≤ 4 ∧ (s_bst σ k n).2 ≤ n
  | 0 => ⟨Nat.zero_le _, Nat.le_refl _⟩
  | n + 1 => by
    have ih := s_bst_le (σ := σ) (k := k) n
    unfold s_bst
    split
    · exact ⟨ih.1, by omega⟩
    · split
      · exact ⟨ih.1, by omega⟩
      next m hm =>
        have := s_bs_le hm
        split
        · exact ⟨this, Nat.le_refl _⟩
        · exact ⟨ih.1, by omega⟩
theorem mI_s (q : Nat) : mI (q + 1) = nI q := by
  unfold mI
  rw [if_neg (by omega)]
  rfl
theorem c_bestPlaceFor {X : Nat → Nat} {α : Nat → Nat → Nat} {τ : Nat → Nat} {σ : jj_S} {η : jj_H} (h : x_rep X α τ σ η) (k : Nat) (hk : k < σ 12 3) : jj_Ht mX0_bestPlaceFor [.ref (X 5), .ref (α 6 k)] η 0 0 (fun v η' => v = some (.int (mI (s_bst σ k 64).2)) ∧ η' = η) := by
  obtain ⟨h1, -⟩ := h.album
  have e8 : (nI 8).toInt = 8 := rfl
  refine jj_lp tok_X0_bestPlaceFor zok_X0 py_0 rfl fun J run => ?_
  have inner : ∀ r, r < 8 → J η 0 0 7 [(0, .ref (X 5)), (1, .ref (α 6 k)), (2, .int (mI (s_bst σ k (8 * (r + 1))).2)), (3, .int (nI (s_bst σ k (8 * (r + 1))).1)), (4, .int (nI (r + 1)))] [] → ∀ m c, c + m = 8 → J η 0 0 17 [(0, .ref (X 5)), (1, .ref (α 6 k)), (2, .int (mI (s_bst σ k (8 * r + c)).2)), (3, .int (nI (s_bst σ k (8 * r + c)).1)), (4, .int (nI r)), (5, .int (nI c))] [] := by
    intro r hr hout m
    induction m with
    | zero =>
      intro c hc
      refine run [(7, 5)] 20 ?_
      refine ⟨fun c1 => ?_, fun c1 => ?_⟩
      · rw [show 8 * r + c = 8 * (r + 1) by omega]
        rw [← nI_add r 1] at hout
        exact hout
      · rw [cb_ge, e8, iN (by omega)] at c1
        omega
    | succ m ih =>
      intro c hc
      refine run [(17, 6)] 60 ?_
      refine ⟨fun c1 => ?_, fun c1 => ?_⟩
      · rw [cb_ge, e8, iN (by omega)] at c1
        omega
      have ih := ih (c + 1) (by omega)
      rw [← nI_add c 1] at ih
      refine ⟨_, h1, 0, 0, _, c_stampOn h r c _ _ hr (by omega) rfl rfl, Nat.le_refl _, Nat.le_refl _, fun v η' hv => ?_⟩
      obtain ⟨rfl, rfl⟩ := hv
      have dv : (8 * r + c) / 8 = r := by omega
      have md : (8 * r + c) % 8 = c := by omega
      cases hs : s_at σ (8 * r + c) with
      | some j =>
        have e : s_bst σ k (8 * r + (c + 1)) = s_bst σ k (8 * r + c) := by
          rw [← Nat.add_assoc]
          conv => lhs; unfold s_bst
          rw [hs]
        rw [e] at ih
        exact ih
      | none =>
        refine ⟨_, h1, 0, 0, _, c_fittingBeside h k r c hk hr (by omega), Nat.le_refl _, Nat.le_refl _, fun v η'' hv => ?_⟩
        obtain ⟨rfl, rfl⟩ := hv
        have bl := (s_bst_le (σ := σ) (k := k) (8 * r + c)).1
        cases hb : s_bs σ k r c 4 with
        | none =>
          have ot : (oI none).toInt = -1 := rfl
          have e : s_bst σ k (8 * r + (c + 1)) = s_bst σ k (8 * r + c) := by
            rw [← Nat.add_assoc]
            conv => lhs; unfold s_bst
            rw [hs, dv, md, hb]
          rw [e] at ih
          refine ⟨fun c2 => ih, fun c2 => ?_⟩
          rw [cb_le, ot, iN (by omega)] at c2
          omega
        | some b =>
          have hb4 := s_bs_le hb
          have ot : (oI (some b)).toInt = b := iN (by omega)
          have e : s_bst σ k (8 * r + (c + 1)) = if (s_bst σ k (8 * r + c)).1 < b then (b, 8 * r + c + 1) else s_bst σ k (8 * r + c) := by
            rw [← Nat.add_assoc]
            conv => lhs; unfold s_bst
            rw [hs, dv, md, hb]
          refine ⟨fun c2 => ?_, fun c2 => ?_⟩
          · rw [cb_le, ot, iN (by omega)] at c2
            rw [e, if_neg (by omega)] at ih
            exact ih
          · rw [cb_le, ot, iN (by omega)] at c2
            rw [e, if_pos (by omega), mI_s] at ih
            refine ⟨0, 0, _, c_placeAt η'' _ _, Nat.le_refl _, Nat.le_refl _, fun v η' hv => ?_⟩
            obtain ⟨rfl, rfl⟩ := hv
            rw [pl8]
            exact ih
  have outer : ∀ m r, r + m = 8 → J η 0 0 7 [(0, .ref (X 5)), (1, .ref (α 6 k)), (2, .int (mI (s_bst σ k (8 * r)).2)), (3, .int (nI (s_bst σ k (8 * r)).1)), (4, .int (nI r))] [] := by
    intro m
    induction m with
    | zero =>
      intro r hr
      refine run [] 20 ?_
      refine ⟨fun c1 => ?_, fun c1 => ?_⟩
      · rw [show r = 8 by omega]
        exact ⟨trivial, ⟨rfl, rfl⟩, Nat.zero_le _, Nat.zero_le _⟩
      · rw [cb_ge, e8, iN (by omega)] at c1
        omega
    | succ m ih =>
      intro r hr
      refine run [(17, 6)] 20 ?_
      refine ⟨fun c1 => ?_, fun c1 => ?_⟩
      · rw [cb_ge, e8, iN (by omega)] at c1
        omega
      · exact inner r (by omega) (ih (r + 1) (by omega)) 8 0 (by omega)
  refine run [(7, 5)] 20 ?_
  exact outer 8 0 (by omega)
theorem c_put {X : Nat → Nat} {α : Nat → Nat → Nat} {τ : Nat → Nat} {σ : jj_S} {η : jj_H} (h : x_rep X α τ σ η) (k q : Nat) (hk : k < σ 12 3) (hq : q < 64) : jj_Ht mX0_put [.ref (X 5), .ref (α 6 k), .int (nI q)] η 0 0 (fun v η' => v = none ∧ (∃ f, η (X 7) = some (x_r 6 64 f) ∧ η' (X 7) = some (x_r 6 64 (va_up f q (some (α 6 k))))) ∧ η' (α 6 k) = some (x_o 5 [.int (nI k), .ref (α 5 (σ 7 k)), .int (nI (σ 8 k)), .int (nI (σ 9 k)), .int (nI (s_mr σ k)), .int (nI (s_mc σ k)), .ref (α 7 k), .int (nI q)]) ∧ ∀ b, b ≠ X 7 → b ≠ α 6 k → η' b = η b) := by
  obtain ⟨h1, f, h2, h3⟩ := h.album
  obtain ⟨k1, -⟩ := h.kk hk
  have e64 : (nI 64).toInt = 64 := rfl
  have n1 : α 6 k ≠ X 7 := fun z => by rw [z, h2] at k1; cases k1
  refine jj_go tok_X0_put zok_X0 py_0 rfl 60 fun J => ?_
  refine ⟨fun c1 => ?_, fun c1 => ⟨_, h1, _, _, _, h2, fun c2 => ?_, fun c2 => ⟨_, h1, _, _, _, q, _, h2, k1, rfl, hq, _, (up_n n1).trans k1, ⟨rfl, ⟨f, h2, ?_⟩, up_s, fun b b1 b2 => ?_⟩, Nat.zero_le _, Nat.zero_le _⟩⟩⟩
  · rw [cb_lt, i0, iN (by omega)] at c1
    omega
  · rw [cb_ge, e64, iN (by omega)] at c2
    omega
  · rw [up_n (Ne.symm n1)]
    exact up_s
  · rw [up_n b2, up_n b1]
theorem c_take {X : Nat → Nat} {α : Nat → Nat → Nat} {τ : Nat → Nat} {σ : jj_S} {η : jj_H} (h : x_rep X α τ σ η) (k q : Nat) (hk : k < σ 12 3) (hq : σ 11 k = q + 1) : jj_Ht mX0_take [.ref (X 5), .ref (α 6 k)] η 0 0 (fun v η' => v = none ∧ (∃ f, η (X 7) = some (x_r 6 64 f) ∧ η' (X 7) = some (x_r 6 64 (va_up f q none))) ∧ η' (α 6 k) = some (x_o 5 [.int (nI k), .ref (α 5 (σ 7 k)), .int (nI (σ 8 k)), .int (nI (σ 9 k)), .int (nI (s_mr σ k)), .int (nI (s_mc σ k)), .ref (α 7 k), .int (-1)]) ∧ ∀ b, b ≠ X 7 → b ≠ α 6 k → η' b = η b) := by
  obtain ⟨h1, f, h2, h3⟩ := h.album
  obtain ⟨k1, -⟩ := h.kk hk
  have hq64 : q < 64 := by have := (h.1.k hk).2.2.2.2.2; omega
  rw [hq, mI_s] at k1
  have e64 : (nI 64).toInt = 64 := rfl
  have n1 : α 6 k ≠ X 7 := fun z => by rw [z, h2] at k1; cases k1
  refine jj_go tok_X0_take zok_X0 py_0 rfl 60 fun J => ?_
  refine ⟨_, k1, fun c1 => ?_, fun c1 => ⟨_, h1, _, _, _, h2, fun c2 => ?_, fun c2 => ⟨_, h1, _, _, _, q, h2, rfl, hq64, _, (up_n n1).trans k1, ⟨rfl, ⟨f, h2, ?_⟩, up_s, fun b b1 b2 => ?_⟩, Nat.zero_le _, Nat.zero_le _⟩⟩⟩
  · rw [cb_lt, i0, iN (by omega)] at c1
    omega
  · rw [cb_ge, e64, iN (by omega)] at c2
    omega
  · rw [up_n (Ne.symm n1)]
    exact up_s
  · rw [up_n b2, up_n b1]
