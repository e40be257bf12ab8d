/-! THE FACE: A NEW PAPER -/
def s_pap (σ : jj_S) (w k : Nat) : jj_S := s_up (s_up (s_up σ 4 (σ 12 1) w) 5 (σ 12 1) k) 12 1 (σ 12 1 + 1)
def a_new (α : Nat → Nat → Nat) (f i q : Nat) : Nat → Nat → Nat := fun g j => if g = f ∧ j = i then q else α g j
def t_new (τ : Nat → Nat) (q t : Nat) : Nat → Nat := fun b => if b = q then t else τ b
theorem a_new_s (α : Nat → Nat → Nat) (f i q : Nat) : a_new α f i q f i = q := if_pos ⟨rfl, rfl⟩
theorem a_new_n (α : Nat → Nat → Nat) (f i q : Nat) {g j : Nat} (h : g ≠ f ∨ j ≠ i) : a_new α f i q g j = α g j := if_neg (fun z => by rcases h with h | h; exact h z.1; exact h z.2)
/-- every thing of the bureau stands somewhere -/
theorem x_rep.stands {X : Nat → Nat} {α : Nat → Nat → Nat} {τ : Nat → Nat} {σ : jj_S} {η : jj_H} (h : x_rep X α τ σ η) : (∀ j, j < 8 → η (X j) ≠ none) ∧ ∀ f i, s_live σ f i → η (α f i) ≠ none := by
  obtain ⟨ok, tag, h0, ⟨f1, h1, -⟩, ⟨f2, h2, -⟩, ⟨f3, h3, -⟩, ⟨f4, h4, -⟩, ⟨a1, f5, a2, -⟩, ⟨f6, h6⟩, hp, hw, hs, hst⟩ := h
  refine ⟨fun j hj => ?_, fun f i hl => ?_⟩
  · rcases (show j = 0 ∨ j = 1 ∨ j = 2 ∨ j = 3 ∨ j = 4 ∨ j = 5 ∨ j = 6 ∨ j = 7 by omega) with rfl | rfl | rfl | rfl | rfl | rfl | rfl | rfl
    · rw [h0]; exact fun z => by cases z
    · rw [h1]; exact fun z => by cases z
    · rw [h2]; exact fun z => by cases z
    · rw [h3]; exact fun z => by cases z
    · rw [h4]; exact fun z => by cases z
    · rw [a1]; exact fun z => by cases z
    · rw [h6]; exact fun z => by cases z
    · rw [a2]; exact fun z => by cases z
  · rcases (show f = 0 ∨ f = 1 ∨ f = 2 ∨ f = 3 ∨ f = 4 ∨ f = 5 ∨ f = 6 ∨ f = 7 ∨ 8 ≤ f by omega) with rfl | rfl | rfl | rfl | rfl | rfl | rfl | rfl | z
    · rw [(hp i hl).1]; exact fun z => by cases z
    · obtain ⟨g, g1, -⟩ := (hp i hl).2.1; rw [g1]; exact fun z => by cases z
    · obtain ⟨g, g1, -⟩ := (hp i hl).2.2.1; rw [g1]; exact fun z => by cases z
    · have hl : i / 10 < σ 12 0 ∧ i % 10 < σ 2 (i / 10) := hl
      have e := (hp _ hl.1).2.2.2 _ hl.2
      rw [show 10 * (i / 10) + i % 10 = i by omega] at e
      rw [e]; exact fun z => by cases z
    · rw [hw i hl]; exact fun z => by cases z
    · obtain ⟨t, -, t2, -⟩ := hs i hl; rw [t2]; exact fun z => by cases z
    · rw [(hst i hl).1]; exact fun z => by cases z
    · obtain ⟨-, g, g1, -⟩ := hst i hl; rw [g1]; exact fun z => by cases z
    · exfalso
      unfold s_live at hl
      split at hl <;> first | omega | exact hl
