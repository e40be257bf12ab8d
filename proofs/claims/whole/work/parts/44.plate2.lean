/-! THE FACE: A NEW PLATE -/
def s_plt (σ : jj_S) (w k : Nat) : jj_S := s_up (s_up (s_up (s_up σ 0 (σ 12 0) w) 1 (σ 12 0) k) 2 (σ 12 0) 0) 12 0 (σ 12 0 + 1)
theorem s_plt0 (σ : jj_S) (w k : Nat) {i : Nat} (h : i ≠ σ 12 0) : s_plt σ w k 0 i = σ 0 i := s_up_n σ 0 w h
theorem s_plt1 (σ : jj_S) (w k : Nat) {i : Nat} (h : i ≠ σ 12 0) : s_plt σ w k 1 i = σ 1 i := s_up_n (s_up σ 0 (σ 12 0) w) 1 k h
theorem s_plt2 (σ : jj_S) (w k : Nat) {i : Nat} (h : i ≠ σ 12 0) : s_plt σ w k 2 i = σ 2 i := s_up_n (s_up (s_up σ 0 (σ 12 0) w) 1 (σ 12 0) k) 2 0 h
theorem s_plt0s (σ : jj_S) (w k : Nat) : s_plt σ w k 0 (σ 12 0) = w := s_up_s σ 0 (σ 12 0) w
theorem s_plt1s (σ : jj_S) (w k : Nat) : s_plt σ w k 1 (σ 12 0) = k := s_up_s (s_up σ 0 (σ 12 0) w) 1 (σ 12 0) k
theorem s_plt2s (σ : jj_S) (w k : Nat) : s_plt σ w k 2 (σ 12 0) = 0 := s_up_s (s_up (s_up σ 0 (σ 12 0) w) 1 (σ 12 0) k) 2 (σ 12 0) 0
theorem s_plt12 (σ : jj_S) (w k : Nat) : s_plt σ w k 12 0 = σ 12 0 + 1 := s_up_s _ 12 0 _
/-- one more thing, at a new address -/
theorem tag_new {X : Nat → Nat} {α : Nat → Nat → Nat} {τ : Nat → Nat} {L : Nat → Nat → Prop} (f0 i0 q : Nat) (hX : ∀ j, j < 8 → X j ≠ q) (hα : ∀ f i, L f i → α f i ≠ q) (hn : ¬ L f0 i0) (T : (∀ j, j < 8 → τ (X j) = j) ∧ ∀ f i, L f i → τ (α f i) = 1000 * (f + 1) + i) :
    (∀ j, j < 8 → t_new τ q (1000 * (f0 + 1) + i0) (X j) = j) ∧ ∀ f i, L f i ∨ (f = f0 ∧ i = i0) → t_new τ q (1000 * (f0 + 1) + i0) (a_new α f0 i0 q f i) = 1000 * (f + 1) + i := by
  refine ⟨fun j hj => ?_, fun f i hl => ?_⟩
  · unfold t_new
    rw [if_neg (hX j hj)]
    exact T.1 j hj
  · by_cases y : f = f0 ∧ i = i0
    · obtain ⟨rfl, rfl⟩ := y
      rw [a_new_s]
      unfold t_new
      rw [if_pos rfl]
    · have hl2 : L f i := by
        rcases hl with hl | hl
        · exact hl
        · exact absurd hl y
      have e : a_new α f0 i0 q f i = α f i := if_neg y
      rw [e]
      unfold t_new
      rw [if_neg (hα f i hl2)]
      exact T.2 f i hl2
theorem x_rep.plt {X : Nat → Nat} {α : Nat → Nat → Nat} {τ : Nat → Nat} {σ : jj_S} {η η' : jj_H} (h : x_rep X α τ σ η) {w k q q1 q2 : Nat} {F : Nat → Int32} (hn : σ 12 0 < 6) (hw : 1 ≤ w ∧ w ≤ 8) (hk : 1 ≤ k ∧ k ≤ 8) (hq : η q = none) (hq1 : η q1 = none) (hq2 : η q2 = none) (n01 : q ≠ q1) (n02 : q ≠ q2) (n12 : q1 ≠ q2)
    (g0 : η' (X 0) = some (x_o 6 [.ref (X 1), .ref (X 2), .ref (X 3), .ref (X 4), .ref (X 5), .ref (X 6), .int (nI (σ 12 0 + 1)), .int (nI (σ 12 1)), .int (nI (σ 12 2)), .int (nI (σ 12 3))]))
    (g2 : ∃ f, η' (X 1) = some (x_r 3 6 f) ∧ ∀ i, i < 6 → f i = if i < σ 12 0 + 1 then some (a_new α 0 (σ 12 0) q 0 i) else none)
    (g3 : η' q = some (x_o 3 [.int (nI w), .int (nI k), .ref q1, .int (nI 0), .ref q2])) (g4 : η' q1 = some (x_r 7 10 (fun _ => none))) (g5 : η' q2 = some (x_i 64 F)) (g6 : ∀ j, j < 64 → F j = nI 1)
    (g1 : ∀ b, b ≠ X 0 → b ≠ X 1 → b ≠ q → b ≠ q1 → b ≠ q2 → η' b = η b) : x_rep X (a_new (a_new (a_new α 0 (σ 12 0) q) 1 (σ 12 0) q1) 2 (σ 12 0) q2) (t_new (t_new (t_new τ q (1000 * (0 + 1) + σ 12 0)) q1 (1000 * (1 + 1) + σ 12 0)) q2 (1000 * (2 + 1) + σ 12 0)) (s_plt σ w k) η' := by
  obtain ⟨s1, s2⟩ := h.stands
  obtain ⟨ok, tag, h0, h1, h2, h3, h4, ⟨a1, a2⟩, h6, hpp, hpw, hs, hst⟩ := h
  obtain ⟨p1, p2, p3⟩ := x_tag.ap ok tag
  have fX : ∀ x, η x = none → ∀ j, j < 8 → X j ≠ x := fun x hx j hj z => s1 j hj (by rw [z]; exact hx)
  have fα : ∀ x, η x = none → ∀ f i, s_live σ f i → α f i ≠ x := fun x hx f i hl z => s2 f i hl (by rw [z]; exact hx)
  have aX : ∀ j, j < 8 → j ≠ 0 → j ≠ 1 → η' (X j) = η (X j) := fun j hj z z2 => g1 _ (p1 j 0 hj (by decide) z) (p1 j 1 hj (by decide) z2) (fX q hq j hj) (fX q1 hq1 j hj) (fX q2 hq2 j hj)
  have aα : ∀ f i, s_live σ f i → η' (α f i) = η (α f i) := fun f i hl => g1 _ (Ne.symm (p2 0 f i (by decide) hl)) (Ne.symm (p2 1 f i (by decide) hl)) (fα q hq f i hl) (fα q1 hq1 f i hl) (fα q2 hq2 f i hl)
  have nl : ∀ f, f < 3 → ¬ s_live σ f (σ 12 0) := fun f hf hl => by
    rcases (show f = 0 ∨ f = 1 ∨ f = 2 by omega) with rfl | rfl | rfl <;> exact Nat.lt_irrefl _ hl
  have nα : ∀ f i, s_live σ f i → a_new (a_new (a_new α 0 (σ 12 0) q) 1 (σ 12 0) q1) 2 (σ 12 0) q2 f i = α f i := fun f i hl => by
    have k0 : ¬ (f = 0 ∧ i = σ 12 0) := fun z => nl 0 (by decide) (by rw [← z.2]; rw [z.1] at hl; exact hl)
    have k1 : ¬ (f = 1 ∧ i = σ 12 0) := fun z => nl 1 (by decide) (by rw [← z.2]; rw [z.1] at hl; exact hl)
    have k2 : ¬ (f = 2 ∧ i = σ 12 0) := fun z => nl 2 (by decide) (by rw [← z.2]; rw [z.1] at hl; exact hl)
    show (if _ then _ else if _ then _ else if _ then _ else _) = _
    rw [if_neg k2, if_neg k1, if_neg k0]
  have m0 : a_new (a_new (a_new α 0 (σ 12 0) q) 1 (σ 12 0) q1) 2 (σ 12 0) q2 0 (σ 12 0) = q := by
    show (if _ then _ else if _ then _ else if _ then _ else _) = _
    rw [if_neg (fun z => absurd z.1 (by decide)), if_neg (fun z => absurd z.1 (by decide)), if_pos ⟨rfl, rfl⟩]
  have m1 : a_new (a_new (a_new α 0 (σ 12 0) q) 1 (σ 12 0) q1) 2 (σ 12 0) q2 1 (σ 12 0) = q1 := by
    show (if _ then _ else if _ then _ else if _ then _ else _) = _
    rw [if_neg (fun z => absurd z.1 (by decide)), if_pos ⟨rfl, rfl⟩]
  have m2 : a_new (a_new (a_new α 0 (σ 12 0) q) 1 (σ 12 0) q1) 2 (σ 12 0) q2 2 (σ 12 0) = q2 := a_new_s _ _ _ _
  have o5 := ok.2.2.2.2.1
  have o4 := ok.2.2.2.1
  have pne : ∀ i, i < σ 12 0 → i ≠ σ 12 0 := fun i hi => by omega
  have lv : ∀ f i, s_live (s_plt σ w k) f i → ((s_live σ f i ∨ f = 0 ∧ i = σ 12 0) ∨ f = 1 ∧ i = σ 12 0) ∨ f = 2 ∧ i = σ 12 0 := by
    intro f i hl
    rcases (show f = 0 ∨ f = 1 ∨ f = 2 ∨ f = 3 ∨ f = 4 ∨ f = 5 ∨ f = 6 ∨ f = 7 ∨ 8 ≤ f by omega) with rfl | rfl | rfl | rfl | rfl | rfl | rfl | rfl | z
    · have hl : i < s_plt σ w k 12 0 := hl
      rw [s_plt12] at hl
      by_cases z : i = σ 12 0
      · exact Or.inl (Or.inl (Or.inr ⟨rfl, z⟩))
      · exact Or.inl (Or.inl (Or.inl (by show i < σ 12 0; omega)))
    · have hl : i < s_plt σ w k 12 0 := hl
      rw [s_plt12] at hl
      by_cases z : i = σ 12 0
      · exact Or.inl (Or.inr ⟨rfl, z⟩)
      · exact Or.inl (Or.inl (Or.inl (by show i < σ 12 0; omega)))
    · have hl : i < s_plt σ w k 12 0 := hl
      rw [s_plt12] at hl
      by_cases z : i = σ 12 0
      · exact Or.inr ⟨rfl, z⟩
      · exact Or.inl (Or.inl (Or.inl (by show i < σ 12 0; omega)))
    · obtain ⟨l1, l2⟩ : i / 10 < s_plt σ w k 12 0 ∧ i % 10 < s_plt σ w k 2 (i / 10) := hl
      rw [s_plt12] at l1
      by_cases z : i / 10 = σ 12 0
      · rw [z, s_plt2s] at l2
        omega
      · rw [s_plt2 σ w k z] at l2
        exact Or.inl (Or.inl (Or.inl (by show i / 10 < σ 12 0 ∧ i % 10 < σ 2 (i / 10); exact ⟨by omega, l2⟩)))
    · exact Or.inl (Or.inl (Or.inl hl))
    · exact Or.inl (Or.inl (Or.inl hl))
    · exact Or.inl (Or.inl (Or.inl hl))
    · exact Or.inl (Or.inl (Or.inl hl))
    · exfalso
      unfold s_live at hl
      split at hl <;> first | omega | exact hl
  refine ⟨?_, ?_, ?_, ?_, ?_, ?_, ?_, ⟨(aX 5 (by decide) (by decide) (by decide)).trans a1, ?_⟩, ?_, fun p' hp2 => ?_, fun i hi => ?_, fun s hs2 => ?_, fun j hj => ?_⟩
  · obtain ⟨⟨c1, c2, c3, c4⟩, o2, o3, o4, o5, o6, o7⟩ := ok
    refine ⟨⟨by rw [s_plt12]; omega, c2, c3, c4⟩, fun p hp => ?_, o3, fun s hs' => ?_, fun j hj => ?_, o6, o7⟩
    · rw [s_plt12] at hp
      by_cases z : p = σ 12 0
      · rw [z, s_plt0s, s_plt1s, s_plt2s]
        exact ⟨⟨hw.1, hw.2, hk.1, hk.2, by decide⟩, fun j hj => absurd hj (Nat.not_lt_zero j)⟩
      · rw [s_plt0 σ w k z, s_plt1 σ w k z, s_plt2 σ w k z]
        exact o2 p (by omega)
    · obtain ⟨b1, b2⟩ := o4 s hs'
      exact ⟨by rw [s_plt12]; exact Nat.lt_succ_of_lt b1, b2⟩
    · obtain ⟨b1, b2, b3, b4⟩ := o5 j hj
      have z : s_pl σ j ≠ σ 12 0 := pne _ (o4 _ b1).1
      exact ⟨b1, (s_plt0 σ w k z).symm ▸ b2, (s_plt1 σ w k z).symm ▸ b3, b4⟩
  · have T := tag_new (L := s_live σ) 0 (σ 12 0) q (fX q hq) (fα q hq) (nl 0 (by decide)) tag
    have T := tag_new 1 (σ 12 0) q1 (fX q1 hq1) (fun f i hl => by
      rcases hl with hl | ⟨rfl, rfl⟩
      · by_cases z : f = 0 ∧ i = σ 12 0
        · exact absurd hl (by rw [z.1, z.2]; exact nl 0 (by decide))
        · rw [show a_new α 0 (σ 12 0) q f i = α f i from if_neg z]
          exact fα q1 hq1 f i hl
      · rw [a_new_s]
        exact n01) (fun z => by
      rcases z with z | ⟨z, _⟩
      · exact nl 1 (by decide) z
      · cases z) T
    have T := tag_new 2 (σ 12 0) q2 (fX q2 hq2) (fun f i hl => by
      by_cases y1 : f = 1 ∧ i = σ 12 0
      · rw [y1.1, y1.2, a_new_s]
        exact n12
      · rw [show a_new (a_new α 0 (σ 12 0) q) 1 (σ 12 0) q1 f i = a_new α 0 (σ 12 0) q f i from if_neg y1]
        by_cases z : f = 0 ∧ i = σ 12 0
        · rw [z.1, z.2, a_new_s]
          exact n02
        · rw [show a_new α 0 (σ 12 0) q f i = α f i from if_neg z]
          rcases hl with (hl | hl) | hl
          · exact fα q2 hq2 f i hl
          · exact absurd hl z
          · exact absurd hl y1) (fun z => by
      rcases z with (z | ⟨z, _⟩) | ⟨z, _⟩
      · exact nl 2 (by decide) z
      · cases z
      · cases z) T
    exact ⟨T.1, fun f i hl => T.2 f i (lv f i hl)⟩
  · rw [s_plt12]
    exact g0
  · obtain ⟨f, f1, f2⟩ := g2
    rw [s_plt12]
    refine ⟨f, f1, fun i hi => (f2 i hi).trans ?_⟩
    by_cases z : i < σ 12 0 + 1
    · rw [if_pos z, if_pos z]
      rfl
    · rw [if_neg z, if_neg z]
  · rw [aX 2 (by decide) (by decide) (by decide)]
    exact h2
  · rw [aX 3 (by decide) (by decide) (by decide)]
    exact h3
  · rw [aX 4 (by decide) (by decide) (by decide)]
    exact h4
  · rw [aX 7 (by decide) (by decide) (by decide)]
    exact a2
  · rw [aX 6 (by decide) (by decide) (by decide)]
    exact h6
  · rw [s_plt12] at hp2
    by_cases y : p' = σ 12 0
    · subst y
      refine ⟨?_, ⟨_, by rw [m1]; exact g4, fun j hj => ?_⟩, ⟨F, by rw [m2]; exact g5, fun x hx s hs => ?_⟩, fun j hj => ?_⟩
      · rw [m0, m1, m2, s_plt0s, s_plt1s, s_plt2s]
        exact g3
      · rw [s_plt2s, if_neg (Nat.not_lt_zero j)]
      · have e1 : (F x).toBitVec.getLsbD s = decide (0 = s) := by
          rw [g6 x hx]
          exact i_two (k := 0) (by decide) hs
        have e2 : ∀ r, s_fl (s_plt σ w k) (σ 12 0) x r = 0 := fun r => by
          unfold s_fl
          rw [s_plt2s]
          rfl
        rw [e1, decide_eq_true_eq]
        constructor
        · intro z
          exact ⟨0, by decide, by rw [e2]; exact z⟩
        · rintro ⟨r, _, z⟩
          rw [e2] at z
          exact z
      · rw [s_plt2s] at hj
        exact absurd hj (Nat.not_lt_zero j)
    · have hp2 : p' < σ 12 0 := by omega
      have hf := (ok.2.1 p' hp2).1.2.2.2.2
      have l3 : ∀ j, j < σ 2 p' → s_live σ 3 (10 * p' + j) := fun j hj => by
        have e1 : (10 * p' + j) / 10 = p' := by omega
        have e2 : (10 * p' + j) % 10 = j := by omega
        show (10 * p' + j) / 10 < σ 12 0 ∧ (10 * p' + j) % 10 < σ 2 ((10 * p' + j) / 10)
        rw [e1, e2]
        exact ⟨hp2, hj⟩
      exact x_plate.k (σ := σ) (s_plt0 σ w k y) (s_plt1 σ w k y) (s_plt2 σ w k y) (fun _ _ _ _ => rfl) hf (nα 0 p' hp2) (nα 1 p' hp2) (nα 2 p' hp2) (fun j hj => nα 3 _ (l3 j hj)) (aα 0 p' hp2) (aα 1 p' hp2) (aα 2 p' hp2) (fun j hj => aα 3 _ (l3 j hj)) (hpp p' hp2)
  · rw [nα 4 i hi, aα 4 i hi]
    exact hpw i hi
  · have b := o4 s hs2
    exact x_sheet.k (σ := σ) (fun _ _ => rfl) rfl (fun _ _ => ⟨rfl, rfl, rfl⟩) (nα 0 _ b.1) (nα 4 _ b.2.1) (nα 5 s hs2) (aα 5 s hs2) (hs s hs2)
  · have b := o5 j hj
    exact x_stamp.k (σ := σ) rfl rfl rfl rfl rfl (fun _ _ => rfl) rfl (nα 5 _ b.1) (nα 6 j hj) (nα 7 j hj) (aα 6 j hj) (aα 7 j hj) (hst j hj)
theorem f_addPlate_ok {X : Nat → Nat} {α : Nat → Nat → Nat} {τ : Nat → Nat} {σ : jj_S} {η : jj_H} (h : x_rep X α τ σ η) (w k : Nat) (hw : 1 ≤ w ∧ w ≤ 8) (hk : 1 ≤ k ∧ k ≤ 8) (hn : σ 12 0 < 6) : jj_HX mX6_addPlate [.ref (X 0), .int (nI w), .int (nI k)] η 3 79 (fun v η' => v = some (.int (nI (σ 12 0))) ∧ (∃ α' τ', x_rep X α' τ' (s_plt σ w k) η' ∧ ∀ b, η b ≠ none → τ' b = τ b) ∧ x_fr τ η η') (fun _ => False) := by
  have h0 := h.2.2.1
  obtain ⟨f, hf, hff⟩ := h.2.2.2.1
  have e1 : (nI 1).toInt = 1 := rfl
  have e8 : (nI 8).toInt = 8 := rfl
  have e6 : (nI 6).toInt = 6 := rfl
  have n01 : X 0 ≠ X 1 := (x_tag.ap h.1 h.2.1).1 0 1 (by decide) (by decide) (by decide)
  refine jj_gx tok_X6_addPlate zok_X6 py_6 rfl 60 fun J => ?_
  refine ⟨0, 0, _, c_isOutside η _ _ _, Nat.zero_le _, Nat.zero_le _, fun v η' hv => ?_⟩
  obtain ⟨rfl, rfl⟩ := hv
  refine ⟨fun c1 => ?_, fun c1 => ⟨0, 0, _, c_isOutside η' _ _ _, Nat.zero_le _, Nat.zero_le _, fun v η'' hv => ?_⟩⟩
  · have c1 := b01_ne0 c1
    rw [e1, e8, iN (by omega)] at c1
    simp at c1
    omega
  obtain ⟨rfl, rfl⟩ := hv
  refine ⟨fun c2 => ⟨_, h0, _, h0, _, _, _, hf, fun c3 => ⟨_, h0, _, h0, by decide, by decide, fun q hq => ?_⟩, fun c3 => ?_⟩, fun c2 => ?_⟩
  · have q0 : X 0 ≠ q := fun z => h.stands.1 0 (by decide) (by rw [z]; exact hq)
    have q1 : X 1 ≠ q := fun z => h.stands.1 1 (by decide) (by rw [z]; exact hq)
    refine ⟨2, 74, _, c_plate_init _ q (nI w) (nI k) up_s, by decide, by decide, fun v η1 hv => ?_⟩
    obtain ⟨rfl, qa, qb, F, na, nb, nab, g3, g4, g5, g6, g2⟩ := hv
    obtain ⟨ma, na⟩ := up_none na
    obtain ⟨mb, nb⟩ := up_none nb
    have a0 : X 0 ≠ qa := fun z => h.stands.1 0 (by decide) (by rw [z]; exact na)
    have a1 : X 1 ≠ qa := fun z => h.stands.1 1 (by decide) (by rw [z]; exact na)
    have b0 : X 0 ≠ qb := fun z => h.stands.1 0 (by decide) (by rw [z]; exact nb)
    have b1 : X 1 ≠ qb := fun z => h.stands.1 1 (by decide) (by rw [z]; exact nb)
    have h02 : η1 (X 0) = _ := (g2 _ q0 a0 b0).trans ((up_n q0).trans h0)
    have hf2 : η1 (X 1) = _ := (g2 _ q1 a1 b1).trans ((up_n q1).trans hf)
    refine ⟨_, _, _, σ 12 0, _, hf2, g3, rfl, hn, _, (up_n n01).trans h02, _, (up_n n01).trans h02, trivial, ⟨rfl, ⟨_, _, h.plt (F := F) hn hw hk hq na nb (Ne.symm ma) (Ne.symm mb) nab ?_ ⟨_, (up_n (Ne.symm n01)).trans up_s, fun i hi => ?_⟩ ?_ ?_ ?_ g6 fun b b0 b1 b2 b3 b4 => ?_, fun b hb => ?_⟩, fun b hb b1 b2 => ?_⟩, by decide, by decide⟩
    · rw [← nI_add (σ 12 0) 1]
      exact up_s
    · by_cases z : i = σ 12 0
      · rw [z, va_up_s, if_pos (by omega), a_new_s]
      · rw [va_up_n z, hff i hi, a_new_n _ _ _ _ (Or.inr z)]
        by_cases y : i < σ 12 0
        · rw [if_pos y, if_pos (by omega)]
        · rw [if_neg y, if_neg (by omega)]
    · exact (up_n (Ne.symm q0)).trans ((up_n (Ne.symm q1)).trans g3)
    · exact (up_n (Ne.symm a0)).trans ((up_n (Ne.symm a1)).trans g4)
    · exact (up_n (Ne.symm b0)).trans ((up_n (Ne.symm b1)).trans g5)
    · exact (up_n b0).trans ((up_n b1).trans ((g2 b b2 b3 b4).trans (up_n b2)))
    · have x0 : b ≠ q := fun z => hb (by rw [z]; exact hq)
      have x1 : b ≠ qa := fun z => hb (by rw [z]; exact na)
      have x2 : b ≠ qb := fun z => hb (by rw [z]; exact nb)
      show (if _ then _ else if _ then _ else if _ then _ else _) = _
      rw [if_neg x2, if_neg x1, if_neg x0]
    · have t0 := h.2.1.1 0 (by decide)
      have t1 := h.2.1.1 1 (by decide)
      have x0 : b ≠ q := fun z => hb (by rw [z]; exact hq)
      have x1 : b ≠ qa := fun z => hb (by rw [z]; exact na)
      have x2 : b ≠ qb := fun z => hb (by rw [z]; exact nb)
      have y0 : b ≠ X 0 := fun z => by rw [← z] at t0; omega
      have y1 : b ≠ X 1 := fun z => by rw [← z] at t1; omega
      exact (up_n y0).trans ((up_n y1).trans ((g2 b x0 x1 x2).trans (up_n x0)))
  · rw [cb_lt, iN (by omega), e6] at c3
    omega
  · have c2 := b01_ne0 c2
    rw [e1, e8, iN (by omega)] at c2
    simp at c2
    omega
