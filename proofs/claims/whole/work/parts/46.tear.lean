/-! THE FACE: TEARING -/
def s_te0 (σ : jj_S) (f : Nat → Nat) : jj_S := fun g j => bif Nat.beq g 10 && (Nat.ble (4 * σ 12 3) j && Nat.blt j (4 * σ 12 3 + 4)) then f (j - 4 * σ 12 3) else σ g j
/-- the teeth of a place of a sheet -/
def s_tt (σ : jj_S) (s r c d : Nat) : Nat := s_prt (σ 0 (σ 6 (8 * s))) (σ 1 (σ 6 (8 * s))) (σ 6 (8 * s + 3)) (s_al (σ 6 (8 * s + 6)) (σ 6 (8 * s + 7)) d) r c d
def s_tea (σ : jj_S) (s r c : Nat) : jj_S := s_up (s_up (s_up (s_up (s_up (s_te0 σ (s_tt σ s r c)) 7 (σ 12 3) s) 8 (σ 12 3) r) 9 (σ 12 3) c) 11 (σ 12 3) 0) 12 3 (σ 12 3 + 1)
theorem s_tea7 (σ : jj_S) (s r c : Nat) {i : Nat} (h : i ≠ σ 12 3) : s_tea σ s r c 7 i = σ 7 i := s_up_n (s_te0 σ (s_tt σ s r c)) 7 s h
theorem s_tea7s (σ : jj_S) (s r c : Nat) : s_tea σ s r c 7 (σ 12 3) = s := s_up_s (s_te0 σ (s_tt σ s r c)) 7 (σ 12 3) s
theorem s_tea8 (σ : jj_S) (s r c : Nat) {i : Nat} (h : i ≠ σ 12 3) : s_tea σ s r c 8 i = σ 8 i := s_up_n (s_up (s_te0 σ (s_tt σ s r c)) 7 (σ 12 3) s) 8 r h
theorem s_tea8s (σ : jj_S) (s r c : Nat) : s_tea σ s r c 8 (σ 12 3) = r := s_up_s (s_up (s_te0 σ (s_tt σ s r c)) 7 (σ 12 3) s) 8 (σ 12 3) r
theorem s_tea9 (σ : jj_S) (s r c : Nat) {i : Nat} (h : i ≠ σ 12 3) : s_tea σ s r c 9 i = σ 9 i := s_up_n (s_up (s_up (s_te0 σ (s_tt σ s r c)) 7 (σ 12 3) s) 8 (σ 12 3) r) 9 c h
theorem s_tea9s (σ : jj_S) (s r c : Nat) : s_tea σ s r c 9 (σ 12 3) = c := s_up_s (s_up (s_up (s_te0 σ (s_tt σ s r c)) 7 (σ 12 3) s) 8 (σ 12 3) r) 9 (σ 12 3) c
theorem s_tea11 (σ : jj_S) (s r c : Nat) {i : Nat} (h : i ≠ σ 12 3) : s_tea σ s r c 11 i = σ 11 i := s_up_n (s_up (s_up (s_up (s_te0 σ (s_tt σ s r c)) 7 (σ 12 3) s) 8 (σ 12 3) r) 9 (σ 12 3) c) 11 0 h
theorem s_tea11s (σ : jj_S) (s r c : Nat) : s_tea σ s r c 11 (σ 12 3) = 0 := s_up_s (s_up (s_up (s_up (s_te0 σ (s_tt σ s r c)) 7 (σ 12 3) s) 8 (σ 12 3) r) 9 (σ 12 3) c) 11 (σ 12 3) 0
theorem s_tea12 (σ : jj_S) (s r c : Nat) : s_tea σ s r c 12 3 = σ 12 3 + 1 := s_up_s _ 12 3 _
theorem s_tea10 (σ : jj_S) (s r c : Nat) {j : Nat} (h : j < 4 * σ 12 3) : s_tea σ s r c 10 j = σ 10 j := by
  have e : Nat.ble (4 * σ 12 3) j = false := by
    cases hb : Nat.ble (4 * σ 12 3) j with
    | false => rfl
    | true => exact absurd (Nat.le_of_ble_eq_true hb) (by omega)
  show (bif true && (Nat.ble (4 * σ 12 3) j && Nat.blt j (4 * σ 12 3 + 4)) then _ else _) = _
  rw [e]
  rfl
theorem s_tea10s (σ : jj_S) (s r c : Nat) {d : Nat} (h : d < 4) : s_tea σ s r c 10 (4 * σ 12 3 + d) = s_tt σ s r c d := by
  have e1 : Nat.ble (4 * σ 12 3) (4 * σ 12 3 + d) = true := Nat.ble_eq_true_of_le (by omega)
  have e2 : Nat.blt (4 * σ 12 3 + d) (4 * σ 12 3 + 4) = true := Nat.ble_eq_true_of_le (by omega)
  show (bif true && (Nat.ble (4 * σ 12 3) (4 * σ 12 3 + d) && Nat.blt (4 * σ 12 3 + d) (4 * σ 12 3 + 4)) then s_tt σ s r c (4 * σ 12 3 + d - 4 * σ 12 3) else _) = _
  rw [e1, e2, Nat.add_sub_cancel_left]
  rfl
theorem s_prt_le {R C z u r c d : Nat} (hu : 1 ≤ u) : s_prt R C z u r c d ≤ u := by
  have h1 : s_cut C z u r c 1 ≤ u := s_cut_le hu
  have h2 : s_cut C z u r c 2 ≤ u := s_cut_le hu
  unfold s_prt
  split <;> split <;> omega
theorem pl8_inj {r c a b : Nat} (hc : c < 8) (hb : b < 8) (e : 8 * r + c = 8 * a + b) : r = a ∧ c = b := by omega
theorem x_rep.tea {X : Nat → Nat} {α : Nat → Nat → Nat} {τ : Nat → Nat} {σ : jj_S} {η η' : jj_H} (h : x_rep X α τ σ η) {s r c t q q1 : Nat} {F : Nat → Int32} (hn : σ 12 3 < 40) (hs0 : s < σ 12 2) (hr : r < σ 0 (σ 6 (8 * s))) (hc : c < σ 1 (σ 6 (8 * s))) (hno : ∀ k, k < σ 12 3 → σ 7 k = s → σ 8 k = r → σ 9 k = c → False) (hq : η q = none) (hq1 : η q1 = none) (n01 : q ≠ q1)
    (ht : t < 2 ^ 64) (ht3 : ∀ r c, r < 8 → c < 8 → (t.testBit (8 * r + c) = true ↔ ∃ k, k < σ 12 3 ∧ σ 7 k = s ∧ σ 8 k = r ∧ σ 9 k = c))
    (g0 : η' (X 0) = some (x_o 6 [.ref (X 1), .ref (X 2), .ref (X 3), .ref (X 4), .ref (X 5), .ref (X 6), .int (nI (σ 12 0)), .int (nI (σ 12 1)), .int (nI (σ 12 2)), .int (nI (σ 12 3 + 1))]))
    (g2 : ∃ f, η' (X 4) = some (x_r 6 40 f) ∧ ∀ i, i < 40 → f i = if i < σ 12 3 + 1 then some (a_new α 6 (σ 12 3) q 6 i) else none)
    (g3 : η' q = some (x_o 5 [.int (nI (σ 12 3)), .ref (α 5 s), .int (nI r), .int (nI c), .int (nI ((r + σ 6 (8 * s + 4)) % σ 5 (σ 6 (8 * s + 1)))), .int (nI ((c + σ 6 (8 * s + 5)) % σ 4 (σ 6 (8 * s + 1)))), .ref q1, .int (-1)])) (g4 : η' q1 = some (x_i 4 F)) (g6 : ∀ d, d < 4 → F d = nI (s_tt σ s r c d))
    (g5 : η' (α 5 s) = some (x_o 4 [.ref (α 0 (σ 6 (8 * s))), .ref (α 4 (σ 6 (8 * s + 1))), .int (nI (σ 6 (8 * s + 2))), .int (nI (σ 6 (8 * s + 3))), .int (nI (σ 6 (8 * s + 4))), .int (nI (σ 6 (8 * s + 5))), .int (nI (σ 6 (8 * s + 6))), .int (nI (σ 6 (8 * s + 7))), .long (lN (t ||| 2 ^ (8 * r + c)))]))
    (g1 : ∀ b, b ≠ X 0 → b ≠ X 4 → b ≠ q → b ≠ q1 → b ≠ α 5 s → η' b = η b) : x_rep X (a_new (a_new α 6 (σ 12 3) q) 7 (σ 12 3) q1) (t_new (t_new τ q (1000 * (6 + 1) + σ 12 3)) q1 (1000 * (7 + 1) + σ 12 3)) (s_tea σ s r c) η' := by
  obtain ⟨s1, s2⟩ := h.stands
  obtain ⟨ok, tag, h0, h1, h2, h3, h4, ⟨a1, a2⟩, h6, hpp, hpw, hs, hst⟩ := h
  obtain ⟨p1, p2, p3⟩ := x_tag.ap ok tag
  have fX : ∀ x, η x = none → ∀ j, j < 8 → X j ≠ x := fun x hx j hj z => s1 j hj (by rw [z]; exact hx)
  have fα : ∀ x, η x = none → ∀ f i, s_live σ f i → α f i ≠ x := fun x hx f i hl z => s2 f i hl (by rw [z]; exact hx)
  have ls : s_live σ 5 s := hs0
  have aX : ∀ j, j < 8 → j ≠ 0 → j ≠ 4 → η' (X j) = η (X j) := fun j hj z z2 => g1 _ (p1 j 0 hj (by decide) z) (p1 j 4 hj (by decide) z2) (fX q hq j hj) (fX q1 hq1 j hj) (p2 j 5 s hj ls)
  have aα : ∀ f i, s_live σ f i → f ≠ 5 ∨ i ≠ s → η' (α f i) = η (α f i) := fun f i hl hn => g1 _ (Ne.symm (p2 0 f i (by decide) hl)) (Ne.symm (p2 4 f i (by decide) hl)) (fα q hq f i hl) (fα q1 hq1 f i hl) (p3 f i 5 s hl ls hn)
  have nl6 : ¬ s_live σ 6 (σ 12 3) := fun hl => Nat.lt_irrefl _ hl
  have nl7 : ¬ s_live σ 7 (σ 12 3) := fun hl => Nat.lt_irrefl _ hl
  have nα : ∀ f i, s_live σ f i → a_new (a_new α 6 (σ 12 3) q) 7 (σ 12 3) q1 f i = α f i := fun f i hl => by
    have k0 : ¬ (f = 6 ∧ i = σ 12 3) := fun z => nl6 (by rw [← z.2]; rw [z.1] at hl; exact hl)
    have k1 : ¬ (f = 7 ∧ i = σ 12 3) := fun z => nl7 (by rw [← z.2]; rw [z.1] at hl; exact hl)
    show (if _ then _ else if _ then _ else _) = _
    rw [if_neg k1, if_neg k0]
  have m0 : a_new (a_new α 6 (σ 12 3) q) 7 (σ 12 3) q1 6 (σ 12 3) = q := by
    show (if _ then _ else if _ then _ else _) = _
    rw [if_neg (fun z => absurd z.1 (by decide)), if_pos ⟨rfl, rfl⟩]
  have m1 : a_new (a_new α 6 (σ 12 3) q) 7 (σ 12 3) q1 7 (σ 12 3) = q1 := a_new_s _ _ _ _
  have o5 := ok.2.2.2.2.1
  have o4 := ok.2.2.2.1
  have ne : ∀ k, k < σ 12 3 → k ≠ σ 12 3 := fun k hk => by omega
  have t10 : ∀ k d, k < σ 12 3 → d < 4 → s_tea σ s r c 10 (4 * k + d) = σ 10 (4 * k + d) := fun k d hk hd => s_tea10 σ s r c (by omega)
  obtain ⟨b1, b2, b3, b4, b5, b6, b7, b8, b9⟩ := o4 s hs0
  have r8 := (ok.2.1 _ b1).1
  have lv : ∀ f i, s_live (s_tea σ s r c) f i → (s_live σ f i ∨ f = 6 ∧ i = σ 12 3) ∨ f = 7 ∧ i = σ 12 3 := by
    intro f i hl
    rcases (show f = 0 ∨ f = 1 ∨ f = 2 ∨ f = 3 ∨ f = 4 ∨ f = 5 ∨ f = 6 ∨ f = 7 ∨ 8 ≤ f by omega) with rfl | rfl | rfl | rfl | rfl | rfl | rfl | rfl | z
    · exact Or.inl (Or.inl hl)
    · exact Or.inl (Or.inl hl)
    · exact Or.inl (Or.inl hl)
    · exact Or.inl (Or.inl hl)
    · exact Or.inl (Or.inl hl)
    · exact Or.inl (Or.inl hl)
    · have hl : i < s_tea σ s r c 12 3 := hl
      rw [s_tea12] at hl
      by_cases z : i = σ 12 3
      · exact Or.inl (Or.inr ⟨rfl, z⟩)
      · exact Or.inl (Or.inl (by show i < σ 12 3; omega))
    · have hl : i < s_tea σ s r c 12 3 := hl
      rw [s_tea12] at hl
      by_cases z : i = σ 12 3
      · exact Or.inr ⟨rfl, z⟩
      · exact Or.inl (Or.inl (by show i < σ 12 3; omega))
    · exfalso
      unfold s_live at hl
      split at hl <;> first | omega | exact hl
  refine ⟨?_, ?_, ?_, ?_, ?_, ?_, ?_, ⟨(aX 5 (by decide) (by decide) (by decide)).trans a1, ?_⟩, ?_, fun p' hp2 => ?_, fun i hi => ?_, fun s' hs2 => ?_, fun j hj => ?_⟩
  · obtain ⟨⟨c1, c2, c3, c4⟩, o2, o3, o4, o5, o6, o7⟩ := ok
    refine ⟨⟨c1, c2, c3, by rw [s_tea12]; omega⟩, o2, o3, o4, fun k hk => ?_, fun i j hi hj e ne2 => ?_, fun i j hi hj e1 e2 e3 => ?_⟩
    · rw [s_tea12] at hk
      by_cases z : k = σ 12 3
      · rw [z]
        refine ⟨by rw [s_tea7s]; exact hs0, ?_, ?_, by rw [s_tea11s]; decide, fun d hd => ?_⟩
        · show s_tea σ s r c 8 (σ 12 3) < σ 0 (σ 6 (8 * s_tea σ s r c 7 (σ 12 3)))
          rw [s_tea7s, s_tea8s]
          exact hr
        · show s_tea σ s r c 9 (σ 12 3) < σ 1 (σ 6 (8 * s_tea σ s r c 7 (σ 12 3)))
          rw [s_tea7s, s_tea9s]
          exact hc
        · rw [s_tea10s _ _ _ _ hd, ← s_al_all]
          show s_tt σ s r c d ≤ s_al (σ 6 (8 * s_tea σ s r c 7 (σ 12 3) + 6)) (σ 6 (8 * s_tea σ s r c 7 (σ 12 3) + 7)) d
          rw [s_tea7s]
          exact s_prt_le (s_al_pos (by omega) (by omega))
      · have hk : k < σ 12 3 := by omega
        obtain ⟨d1, d2, d3, d4, d5⟩ := o5 k hk
        refine ⟨by rw [s_tea7 _ _ _ _ z]; exact d1, ?_, ?_, by rw [s_tea11 _ _ _ _ z]; exact d4, fun d hd => ?_⟩
        · show s_tea σ s r c 8 k < σ 0 (σ 6 (8 * s_tea σ s r c 7 k))
          rw [s_tea7 _ _ _ _ z, s_tea8 _ _ _ _ z]
          exact d2
        · show s_tea σ s r c 9 k < σ 1 (σ 6 (8 * s_tea σ s r c 7 k))
          rw [s_tea7 _ _ _ _ z, s_tea9 _ _ _ _ z]
          exact d3
        · rw [t10 k d hk hd]
          show σ 10 (4 * k + d) ≤ 2 ^ σ 6 (8 * s_tea σ s r c 7 k + (6 + d % 2)) - 1
          rw [s_tea7 _ _ _ _ z]
          exact d5 d hd
    · rw [s_tea12] at hi hj
      by_cases z1 : i = σ 12 3
      · rw [z1, s_tea11s] at ne2
        exact absurd rfl ne2
      · by_cases z2 : j = σ 12 3
        · rw [e, z2, s_tea11s] at ne2
          exact absurd rfl ne2
        · rw [s_tea11 _ _ _ _ z1] at ne2
          rw [s_tea11 _ _ _ _ z1, s_tea11 _ _ _ _ z2] at e
          exact o6 i j (by omega) (by omega) e ne2
    · rw [s_tea12] at hi hj
      by_cases z1 : i = σ 12 3
      · by_cases z2 : j = σ 12 3
        · rw [z1, z2]
        · rw [z1, s_tea7s, s_tea7 _ _ _ _ z2] at e1
          rw [z1, s_tea8s, s_tea8 _ _ _ _ z2] at e2
          rw [z1, s_tea9s, s_tea9 _ _ _ _ z2] at e3
          exact (hno j (by omega) e1.symm e2.symm e3.symm).elim
      · by_cases z2 : j = σ 12 3
        · rw [z2, s_tea7s, s_tea7 _ _ _ _ z1] at e1
          rw [z2, s_tea8s, s_tea8 _ _ _ _ z1] at e2
          rw [z2, s_tea9s, s_tea9 _ _ _ _ z1] at e3
          exact (hno i (by omega) e1 e2 e3).elim
        · rw [s_tea7 _ _ _ _ z1, s_tea7 _ _ _ _ z2] at e1
          rw [s_tea8 _ _ _ _ z1, s_tea8 _ _ _ _ z2] at e2
          rw [s_tea9 _ _ _ _ z1, s_tea9 _ _ _ _ z2] at e3
          exact o7 i j (by omega) (by omega) e1 e2 e3
  · have T := tag_new (L := s_live σ) 6 (σ 12 3) q (fX q hq) (fα q hq) nl6 tag
    have T := tag_new 7 (σ 12 3) q1 (fX q1 hq1) (fun f i hl => by
      rcases hl with hl | ⟨rfl, rfl⟩
      · by_cases z : f = 6 ∧ i = σ 12 3
        · exact absurd hl (by rw [z.1, z.2]; exact nl6)
        · rw [show a_new α 6 (σ 12 3) q f i = α f i from if_neg z]
          exact fα q1 hq1 f i hl
      · rw [a_new_s]
        exact n01) (fun z => by
      rcases z with z | ⟨z, _⟩
      · exact nl7 z
      · cases z) T
    exact ⟨T.1, fun f i hl => T.2 f i (lv f i hl)⟩
  · rw [s_tea12]
    exact g0
  · obtain ⟨f, f1, f2⟩ := h1
    refine ⟨f, (aX 1 (by decide) (by decide) (by decide)).trans f1, fun i hi => (f2 i hi).trans ?_⟩
    by_cases y : i < σ 12 0
    · rw [if_pos y]
      exact ((if_pos y).trans (by rw [nα 0 i y])).symm
    · rw [if_neg y]
      exact (if_neg y).symm
  · obtain ⟨f, f1, f2⟩ := h2
    refine ⟨f, (aX 2 (by decide) (by decide) (by decide)).trans f1, fun i hi => (f2 i hi).trans ?_⟩
    by_cases y : i < σ 12 1
    · rw [if_pos y]
      exact ((if_pos y).trans (by rw [nα 4 i y])).symm
    · rw [if_neg y]
      exact (if_neg y).symm
  · obtain ⟨f, f1, f2⟩ := h3
    refine ⟨f, (aX 3 (by decide) (by decide) (by decide)).trans f1, fun i hi => (f2 i hi).trans ?_⟩
    by_cases y : i < σ 12 2
    · rw [if_pos y]
      exact ((if_pos y).trans (by rw [nα 5 i y])).symm
    · rw [if_neg y]
      exact (if_neg y).symm
  · obtain ⟨f, f1, f2⟩ := g2
    rw [s_tea12]
    refine ⟨f, f1, fun i hi => (f2 i hi).trans ?_⟩
    by_cases z : i < σ 12 3 + 1
    · rw [if_pos z, if_pos z]
      rfl
    · rw [if_neg z, if_neg z]
  · obtain ⟨f, f1, f2⟩ := a2
    refine ⟨f, (aX 7 (by decide) (by decide) (by decide)).trans f1, fun x hx => ⟨fun k hk e => ?_, fun e => (f2 x hx).2 fun k hk z => ?_⟩⟩
    · rw [s_tea12] at hk
      by_cases z : k = σ 12 3
      · rw [z, s_tea11s] at e
        exact absurd e (by omega)
      · rw [s_tea11 _ _ _ _ z] at e
        rw [nα 6 k (show k < σ 12 3 by omega)]
        exact (f2 x hx).1 k (by omega) e
    · have e := e k (by rw [s_tea12]; omega)
      rw [s_tea11 _ _ _ _ (ne k hk)] at e
      exact e z
  · rw [aX 6 (by decide) (by decide) (by decide)]
    exact h6
  · have hp2 : p' < σ 12 0 := hp2
    have hf := (ok.2.1 p' hp2).1.2.2.2.2
    have l3 : ∀ j, j < σ 2 p' → s_live σ 3 (10 * p' + j) := fun j hj => by
      have e1 : (10 * p' + j) / 10 = p' := by omega
      have e2 : (10 * p' + j) % 10 = j := by omega
      show (10 * p' + j) / 10 < σ 12 0 ∧ (10 * p' + j) % 10 < σ 2 ((10 * p' + j) / 10)
      rw [e1, e2]
      exact ⟨hp2, hj⟩
    exact x_plate.k (σ := σ) rfl rfl rfl (fun _ _ _ _ => rfl) hf (nα 0 p' hp2) (nα 1 p' hp2) (nα 2 p' hp2) (fun j hj => nα 3 _ (l3 j hj)) (aα 0 p' hp2 (Or.inl (by decide))) (aα 1 p' hp2 (Or.inl (by decide))) (aα 2 p' hp2 (Or.inl (by decide))) (fun j hj => aα 3 _ (l3 j hj) (Or.inl (by decide))) (hpp p' hp2)
  · rw [nα 4 i hi, aα 4 i hi (Or.inl (by decide))]
    exact hpw i hi
  · have hs2 : s' < σ 12 2 := hs2
    by_cases y : s' = s
    · subst y
      refine ⟨t ||| 2 ^ (8 * r + c), Nat.or_lt_two_pow ht (Nat.pow_lt_pow_right (by decide) (by omega)), ?_, fun a b ha hb => ?_, ?_⟩
      · rw [nα 5 s' ls]
        exact g5.trans (by rw [← nα 0 _ b1, ← nα 4 _ b2]; rfl)
      · rw [Nat.testBit_or, Nat.testBit_two_pow, Bool.or_eq_true, ht3 a b ha hb, decide_eq_true_eq, s_tea12]
        constructor
        · rintro (⟨k, k1, k2, k3, k4⟩ | e)
          · exact ⟨k, by omega, by rw [s_tea7 _ _ _ _ (ne k k1)]; exact k2, by rw [s_tea8 _ _ _ _ (ne k k1)]; exact k3, by rw [s_tea9 _ _ _ _ (ne k k1)]; exact k4⟩
          · obtain ⟨e1, e2⟩ := pl8_inj (by omega) hb e
            exact ⟨σ 12 3, by omega, s_tea7s _ _ _ _, by rw [s_tea8s]; exact e1, by rw [s_tea9s]; exact e2⟩
        · rintro ⟨k, k1, k2, k3, k4⟩
          by_cases z : k = σ 12 3
          · rw [z, s_tea8s] at k3
            rw [z, s_tea9s] at k4
            exact Or.inr (by rw [k3, k4])
          · rw [s_tea7 _ _ _ _ z] at k2
            rw [s_tea8 _ _ _ _ z] at k3
            rw [s_tea9 _ _ _ _ z] at k4
            exact Or.inl ⟨k, by omega, k2, k3, k4⟩
      · constructor
        · intro e
          have e9 : (t ||| 2 ^ (8 * r + c)).testBit (8 * r + c) = true := by
            rw [Nat.testBit_or, Nat.testBit_two_pow_self, Bool.or_true]
          rw [e, Nat.zero_testBit] at e9
          cases e9
        · intro e
          exact absurd (s_tea7s σ s' r c) (e (σ 12 3) (by rw [s_tea12]; omega))
    · obtain ⟨t', t1, t2, t3, t4⟩ := hs s' hs2
      refine ⟨t', t1, ?_, fun a b ha hb => ?_, ?_⟩
      · have d := o4 s' hs2
        rw [nα 5 s' hs2, aα 5 s' hs2 (Or.inr y)]
        exact t2.trans (by rw [← nα 0 _ d.1, ← nα 4 _ d.2.1]; rfl)
      · rw [t3 a b ha hb, s_tea12]
        constructor
        · rintro ⟨k, k1, k2, k3, k4⟩
          exact ⟨k, by omega, by rw [s_tea7 _ _ _ _ (ne k k1)]; exact k2, by rw [s_tea8 _ _ _ _ (ne k k1)]; exact k3, by rw [s_tea9 _ _ _ _ (ne k k1)]; exact k4⟩
        · rintro ⟨k, k1, k2, k3, k4⟩
          by_cases z : k = σ 12 3
          · rw [z, s_tea7s] at k2
            exact absurd k2.symm y
          · rw [s_tea7 _ _ _ _ z] at k2
            rw [s_tea8 _ _ _ _ z] at k3
            rw [s_tea9 _ _ _ _ z] at k4
            exact ⟨k, by omega, k2, k3, k4⟩
      · rw [t4, s_tea12]
        constructor
        · intro e k k1
          by_cases z : k = σ 12 3
          · rw [z, s_tea7s]
            exact Ne.symm y
          · rw [s_tea7 _ _ _ _ z]
            exact e k (by omega)
        · intro e k k1
          have := e k (by omega)
          rw [s_tea7 _ _ _ _ (ne k k1)] at this
          exact this
  · rw [s_tea12] at hj
    by_cases z : j = σ 12 3
    · subst z
      refine ⟨?_, F, by rw [m1]; exact g4, fun d hd => by rw [s_tea10s _ _ _ _ hd]; exact g6 d hd⟩
      have e1 : s_mr (s_tea σ s r c) (σ 12 3) = (r + σ 6 (8 * s + 4)) % σ 5 (σ 6 (8 * s + 1)) := by
        show (s_tea σ s r c 8 (σ 12 3) + σ 6 (8 * s_tea σ s r c 7 (σ 12 3) + 4)) % σ 5 (σ 6 (8 * s_tea σ s r c 7 (σ 12 3) + 1)) = _
        rw [s_tea7s, s_tea8s]
      have e2 : s_mc (s_tea σ s r c) (σ 12 3) = (c + σ 6 (8 * s + 5)) % σ 4 (σ 6 (8 * s + 1)) := by
        show (s_tea σ s r c 9 (σ 12 3) + σ 6 (8 * s_tea σ s r c 7 (σ 12 3) + 5)) % σ 4 (σ 6 (8 * s_tea σ s r c 7 (σ 12 3) + 1)) = _
        rw [s_tea7s, s_tea9s]
      rw [m0, m1, e1, e2, s_tea7s, s_tea8s, s_tea9s, s_tea11s, nα 5 s ls]
      exact g3
    · have hj : j < σ 12 3 := by omega
      have d := o5 j hj
      have e7 := s_tea7 σ s r c z
      have e8 := s_tea8 σ s r c z
      have e9 := s_tea9 σ s r c z
      have e1 : s_mr (s_tea σ s r c) j = s_mr σ j := by
        show (s_tea σ s r c 8 j + σ 6 (8 * s_tea σ s r c 7 j + 4)) % σ 5 (σ 6 (8 * s_tea σ s r c 7 j + 1)) = _
        rw [e7, e8]
        rfl
      have e2 : s_mc (s_tea σ s r c) j = s_mc σ j := by
        show (s_tea σ s r c 9 j + σ 6 (8 * s_tea σ s r c 7 j + 5)) % σ 4 (σ 6 (8 * s_tea σ s r c 7 j + 1)) = _
        rw [e7, e9]
        rfl
      exact x_stamp.k (σ := σ) e7 e8 e9 e1 e2 (fun d hd => t10 j d hj hd) (s_tea11 σ s r c z) (nα 5 _ d.1) (nα 6 j hj) (nα 7 j hj) (aα 6 j hj (Or.inl (by decide))) (aα 7 j hj (Or.inl (by decide))) (hst j hj)
