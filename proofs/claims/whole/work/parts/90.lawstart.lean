/-! THE LAW FROM ITS ENTRY -/
theorem x_rep.retag {X : Nat → Nat} {α : Nat → Nat → Nat} {τ τ' : Nat → Nat} {σ : jj_S} {η : jj_H} (h : x_rep X α τ σ η) (h1 : ∀ j, j < 8 → τ' (X j) = τ (X j)) (h2 : ∀ f i, s_live σ f i → τ' (α f i) = τ (α f i)) : x_rep X α τ' σ η := by
  obtain ⟨ok, ⟨t1, t2⟩, r⟩ := h
  exact ⟨ok, ⟨fun j hj => (h1 j hj).trans (t1 j hj), fun f i hl => (h2 f i hl).trans (t2 f i hl)⟩, r⟩
/-- tags for the check's rows and for the row of the answer -/
noncomputable def w_tg (Y : Nat → Nat) (q : Nat) (τ : Nat → Nat) (b : Nat) : Nat := if b = q then 70 else @dite Nat (∃ i, i < 13 ∧ b = Y i) (Classical.propDecidable _) (fun h => 50 + Classical.choose h) (fun _ => τ b)
theorem w_tg_q (Y : Nat → Nat) (q : Nat) (τ : Nat → Nat) : w_tg Y q τ q = 70 := if_pos rfl
theorem w_tg_Y {Y : Nat → Nat} {q : Nat} {τ : Nat → Nat} (d : ∀ i j, i < 13 → j < 13 → i ≠ j → Y i ≠ Y j) {i : Nat} (hi : i < 13) (hq : Y i ≠ q) : w_tg Y q τ (Y i) = 50 + i := by
  have h : ∃ k, k < 13 ∧ Y i = Y k := ⟨i, hi, rfl⟩
  unfold w_tg
  rw [if_neg hq, dif_pos h]
  obtain ⟨c1, c2⟩ := Classical.choose_spec h
  have : Classical.choose h = i := Classical.byContradiction fun z => d _ _ c1 hi z c2.symm
  rw [this]
theorem w_tg_n {Y : Nat → Nat} {q : Nat} {τ : Nat → Nat} {b : Nat} (hq : b ≠ q) (hY : ∀ i, i < 13 → b ≠ Y i) : w_tg Y q τ b = τ b := by
  unfold w_tg
  rw [if_neg hq, dif_neg (fun ⟨i, hi, e⟩ => hY i hi e)]
theorem L_start {RC RS b L : Nat} {xs : Nat → Int32} {J : jj_K} (hJ : lw_J RC RS b L xs J) (hL : L ≤ 3584) (hRC : 300000 ≤ RC) (hRS : 3000000 ≤ RS) : J (fun _ => none) 0 0 0 [(0, .ref b)] [] := by
  obtain ⟨run, -⟩ := id hJ
  refine run [(23, 5)] 40 ?_
  refine ⟨by omega, by show 0 + 10 ≤ RS; omega, fun a ha => ?_⟩
  refine ⟨7, 165, _, c_bureau_init _ a up_s, by omega, by show 0 + 10 + 165 ≤ RS; omega, fun v η1 hv => ?_⟩
  obtain ⟨rfl, p, w, s, kk, l, g, m, τ, hx, hb⟩ := hv
  have hX0 : x_X a p w s kk l g m 0 = a := rfl
  generalize x_X a p w s kk l g m = X at *
  refine ⟨by omega, by show 0 + 10 + 165 + 17 ≤ RS; omega, fun y hy => ?_⟩
  refine ⟨12, 726, _, c_model_init _ y up_s, by omega, by show 0 + 10 + 165 + 17 + 726 ≤ RS; omega, fun v η3 hv => ?_⟩
  obtain ⟨rfl, Y, hY0, hm, hYn, hfr⟩ := hv
  refine ⟨1, rfl, by decide, by omega, by show 0 + 10 + 165 + 17 + 726 + 1 ≤ RS; omega, fun q hq => ?_⟩
  have st := hx.stands
  have key : ∀ b, η1 b ≠ none → η3 b = η1 b ∧ b ≠ q ∧ ∀ i, i < 13 → b ≠ Y i := by
    intro b hb
    have by_ : b ≠ y := fun z => hb (by rw [z]; exact hy)
    have e2 : jj_up η1 y (.inr (7, jj_def 7)) b = η1 b := up_n by_
    have e3 : η3 b = η1 b := (hfr b by_ (by rw [e2]; exact hb)).trans e2
    refine ⟨e3, fun z => hb (by rw [← e3, z]; exact hq), fun i hi z => ?_⟩
    by_cases h0 : i = 0
    · rw [h0, hY0] at z
      exact by_ z
    · have := hYn i (by omega) hi
      rw [← z, e2] at this
      exact hb this
  have hYq : ∀ i, i < 13 → Y i ≠ q := fun i hi z => hm.st i hi (by rw [z]; exact hq)
  have hI : w_I X Y q s_0 0 (fun _ => 0) (jj_up η3 q (.inl (1, 1, .inr (.inl (fun _ => 0))))) := by
    refine ⟨fun _ _ => 0, w_tg Y q τ, ?_, hm.cg fun i hi => up_n (hYq i hi), fun i hi => w_tg_Y hm.1 hi (hYq i hi), w_tg_q Y q τ, up_s⟩
    have kX := fun j (hj : j < 8) => key _ (st.1 j hj)
    have kα := fun f i (hl : s_live s_0 f i) => key _ (st.2 f i hl)
    refine (hx.cong (fun j hj _ => (up_n (kX j hj).2.1).trans (kX j hj).1) (fun f i hl => (up_n (kα f i hl).2.1).trans (kα f i hl).1) ?_).retag (fun j hj => w_tg_n (kX j hj).2.1 (kX j hj).2.2) (fun f i hl => w_tg_n (kα f i hl).2.1 (kα f i hl).2.2)
    rw [up_n (kX 6 (by decide)).2.1, (kX 6 (by decide)).1]
    exact hx.2.2.2.2.2.2.2.2.1
  have g := L_loop (C := fun j => 1000 + 464 * j) (S := fun j => 1000 + 4040 * j) (X := X) (Y := Y) (q := q) hJ hL
    (fun j hj => Nat.le_trans (Nat.add_le_add_left (Nat.mul_le_mul_left 464 hj) 1000) (Nat.le_trans (by decide) hRC))
    (fun j hj => Nat.le_trans (Nat.add_le_add_left (Nat.mul_le_mul_left 4040 hj) 1000) (Nat.le_trans (by decide) hRS))
    (fun j => by
      show 1000 + 464 * j + 464 ≤ 1000 + 464 * (j + 1)
      rw [Nat.mul_succ, Nat.add_assoc]
      exact Nat.le_refl _)
    (fun j => by
      show 1000 + 4040 * j + 4040 ≤ 1000 + 4040 * (j + 1)
      rw [Nat.mul_succ, Nat.add_assoc]
      exact Nat.le_refl _) 512 0 rfl _ (0 + 1 + 7 + 1 + 12 + 1) (0 + 10 + 165 + 17 + 726 + 1) s_0 0 _ hI (by decide) (by decide)
  rw [hX0, hY0] at g
  exact g
