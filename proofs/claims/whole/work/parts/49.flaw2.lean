theorem x_rep.flw {X : Nat → Nat} {α : Nat → Nat → Nat} {τ : Nat → Nat} {σ : jj_S} {η η' : jj_H} (h : x_rep X α τ σ η) {p r c k a b q : Nat} {f : Nat → Option Nat} {g : Nat → Int32} {S : Int32} (hp : p < σ 12 0) (hn : σ 2 p < 10) (hr : r < σ 0 p) (hc : c < σ 1 p) (hk : k ≤ 4) (hab : a < b) (hb : b < 2147483648) (hq : η q = none)
    (hff : ∀ j, j < 10 → f j = if j < σ 2 p then some (α 3 (10 * p + j)) else none) (hgg : ∀ q, q < 64 → ∀ s, s < 32 → ((g q).toBitVec.getLsbD s = true ↔ s_shown σ p q s))
    (g0 : η' (α 0 p) = some (x_po α σ p (σ 2 p + 1))) (g2 : η' (α 1 p) = some (x_r 7 10 (va_up f (σ 2 p) (some q)))) (g3 : η' q = some (x_fo r c k a b)) (g4 : η' (α 2 p) = some (x_i 64 (upd g (8 * r + c) S)))
    (g5 : ∀ s, s < 32 → (S.toBitVec.getLsbD s = true ↔ ∃ x, s_bd (s_flw σ p r c k a b) p (8 * r + c) (σ 2 p + 1) x ∧ s_fl (s_flw σ p r c k a b) p (8 * r + c) x = s))
    (g1 : ∀ b, b ≠ α 0 p → b ≠ α 1 p → b ≠ α 2 p → b ≠ q → η' b = η b) : x_rep X (a_new α 3 (10 * p + σ 2 p) q) (t_new τ q (1000 * (3 + 1) + (10 * p + σ 2 p))) (s_flw σ p r c k a b) η' := by
  obtain ⟨s1, s2⟩ := h.stands
  obtain ⟨ok, tag, h0, h1, h2, h3, h4, ⟨a1, a2⟩, h6, hpp, hpw, hs, hst⟩ := h
  obtain ⟨p1, p2, p3⟩ := x_tag.ap ok tag
  have qX : ∀ j, j < 8 → X j ≠ q := fun j hj z => s1 j hj (by rw [z]; exact hq)
  have qα : ∀ f i, s_live σ f i → α f i ≠ q := fun f i hl z => s2 f i hl (by rw [z]; exact hq)
  have l0 : s_live σ 0 p := hp
  have l1 : s_live σ 1 p := hp
  have l2 : s_live σ 2 p := hp
  have aX : ∀ j, j < 8 → η' (X j) = η (X j) := fun j hj => g1 _ (p2 j 0 p hj l0) (p2 j 1 p hj l1) (p2 j 2 p hj l2) (qX j hj)
  have aα : ∀ f i, s_live σ f i → f ≠ 0 ∨ i ≠ p → f ≠ 1 ∨ i ≠ p → f ≠ 2 ∨ i ≠ p → η' (α f i) = η (α f i) := fun f i hl x0 x1 x2 => g1 _ (p3 f i 0 p hl l0 x0) (p3 f i 1 p hl l1 x1) (p3 f i 2 p hl l2 x2) (qα f i hl)
  have d10 : (10 * p + σ 2 p) / 10 = p := by omega
  have m10 : (10 * p + σ 2 p) % 10 = σ 2 p := by omega
  have nl : ¬ s_live σ 3 (10 * p + σ 2 p) := fun hl => by
    obtain ⟨_, z⟩ : (10 * p + σ 2 p) / 10 < σ 12 0 ∧ (10 * p + σ 2 p) % 10 < σ 2 ((10 * p + σ 2 p) / 10) := hl
    rw [d10, m10] at z
    exact Nat.lt_irrefl _ z
  have nα : ∀ f i, s_live σ f i → a_new α 3 (10 * p + σ 2 p) q f i = α f i := fun f i hl => by
    have k0 : ¬ (f = 3 ∧ i = 10 * p + σ 2 p) := fun z => nl (by rw [← z.2]; rw [z.1] at hl; exact hl)
    show (if _ then _ else _) = _
    rw [if_neg k0]
  have o5 := ok.2.2.2.2.1
  have o4 := ok.2.2.2.1
  have o2 := ok.2.1
  have l3 : ∀ p', p' < σ 12 0 → ∀ j, j < σ 2 p' → s_live σ 3 (10 * p' + j) := fun p' hp2 j hj => by
    have hf := (o2 p' hp2).1.2.2.2.2
    have e1 : (10 * p' + j) / 10 = p' := by omega
    have e2 : (10 * p' + j) % 10 = j := by omega
    show (10 * p' + j) / 10 < σ 12 0 ∧ (10 * p' + j) % 10 < σ 2 ((10 * p' + j) / 10)
    rw [e1, e2]
    exact ⟨hp2, hj⟩
  have v3 : ∀ p', p' < σ 12 0 → p' ≠ p → ∀ j e, j < σ 2 p' → e < 5 → s_flw σ p r c k a b 3 (5 * (10 * p' + j) + e) = σ 3 (5 * (10 * p' + j) + e) := fun p' hp2 ne j e hj he => s_flw3 _ _ _ _ _ _ _ (by have hf := (o2 p' hp2).1.2.2.2.2; omega)
  have lv : ∀ f i, s_live (s_flw σ p r c k a b) f i → s_live σ f i ∨ f = 3 ∧ i = 10 * p + σ 2 p := by
    intro f i hl
    by_cases y : f = 3
    · subst y
      obtain ⟨z1, z2⟩ : i / 10 < σ 12 0 ∧ i % 10 < s_flw σ p r c k a b 2 (i / 10) := hl
      by_cases z : i / 10 = p
      · rw [z, s_flw2s] at z2
        by_cases w : i % 10 = σ 2 p
        · exact Or.inr ⟨rfl, by omega⟩
        · refine Or.inl ⟨z1, ?_⟩
          rw [z]
          omega
      · rw [s_flw2 _ _ _ _ _ _ _ z] at z2
        exact Or.inl ⟨z1, z2⟩
    · refine Or.inl ?_
      unfold s_live at hl ⊢
      split at hl <;> first | exact absurd rfl y | exact hl
  refine ⟨?_, ?_, (aX 0 (by decide)).trans h0, ?_, ?_, ?_, ?_, ⟨(aX 5 (by decide)).trans a1, ?_⟩, ?_, fun p' hp2 => ?_, fun i hi => ?_, fun s hs2 => ?_, fun j hj => ?_⟩
  · obtain ⟨o1, o2, o3, o4, o5, o6, o7⟩ := ok
    refine ⟨o1, fun p' hp2 => ?_, o3, o4, o5, o6, o7⟩
    by_cases y : p' = p
    · subst y
      exact s_flw_okp (o2 p' hp2) hn hr hc hk hab hb
    · refine ⟨by rw [s_flw2 _ _ _ _ _ _ _ y]; exact (o2 p' hp2).1, fun j hj => ?_⟩
      rw [s_flw2 _ _ _ _ _ _ _ y] at hj
      have e0 := v3 p' hp2 y j 0 hj (by omega)
      rw [Nat.add_zero] at e0
      rw [e0, v3 p' hp2 y j 1 hj (by omega), v3 p' hp2 y j 2 hj (by omega), v3 p' hp2 y j 3 hj (by omega), v3 p' hp2 y j 4 hj (by omega)]
      exact (o2 p' hp2).2 j hj
  · have T := tag_new (L := s_live σ) 3 (10 * p + σ 2 p) q qX qα nl tag
    exact ⟨T.1, fun f i hl => T.2 f i (lv f i hl)⟩
  · obtain ⟨f, f1, f2⟩ := h1
    refine ⟨f, (aX 1 (by decide)).trans f1, fun i hi => (f2 i hi).trans ?_⟩
    by_cases y : i < σ 12 0
    · rw [if_pos y]
      exact ((if_pos y).trans (by rw [nα 0 i y])).symm
    · rw [if_neg y]
      exact (if_neg y).symm
  · obtain ⟨f, f1, f2⟩ := h2
    refine ⟨f, (aX 2 (by decide)).trans f1, fun i hi => (f2 i hi).trans ?_⟩
    by_cases y : i < σ 12 1
    · rw [if_pos y]
      exact ((if_pos y).trans (by rw [nα 4 i y])).symm
    · rw [if_neg y]
      exact (if_neg y).symm
  · obtain ⟨f, f1, f2⟩ := h3
    refine ⟨f, (aX 3 (by decide)).trans f1, fun i hi => (f2 i hi).trans ?_⟩
    by_cases y : i < σ 12 2
    · rw [if_pos y]
      exact ((if_pos y).trans (by rw [nα 5 i y])).symm
    · rw [if_neg y]
      exact (if_neg y).symm
  · obtain ⟨f, f1, f2⟩ := h4
    refine ⟨f, (aX 4 (by decide)).trans f1, fun i hi => (f2 i hi).trans ?_⟩
    by_cases y : i < σ 12 3
    · rw [if_pos y]
      exact ((if_pos y).trans (by rw [nα 6 i y])).symm
    · rw [if_neg y]
      exact (if_neg y).symm
  · obtain ⟨f, f1, f2⟩ := a2
    refine ⟨f, (aX 7 (by decide)).trans f1, fun x hx => ⟨fun j hj e => ?_, (f2 x hx).2⟩⟩
    rw [nα 6 j hj]
    exact (f2 x hx).1 j hj e
  · rw [aX 6 (by decide)]
    exact h6
  · have hp2 : p' < σ 12 0 := hp2
    by_cases y : p' = p
    · subst y
      have A0 : a_new α 3 (10 * p' + σ 2 p') q 0 p' = α 0 p' := a_new_n _ _ _ _ (Or.inl (by decide))
      have A1 : a_new α 3 (10 * p' + σ 2 p') q 1 p' = α 1 p' := a_new_n _ _ _ _ (Or.inl (by decide))
      have A2 : a_new α 3 (10 * p' + σ 2 p') q 2 p' = α 2 p' := a_new_n _ _ _ _ (Or.inl (by decide))
      have e2 := s_flw2s σ p' r c k a b
      refine ⟨?_, ⟨_, by rw [A1]; exact g2, fun j hj => ?_⟩, ⟨_, by rw [A2]; exact g4, fun x hx s hs => ?_⟩, fun j hj => ?_⟩
      · rw [A0, A1, A2, e2]
        exact g0
      · rw [e2]
        by_cases z : j = σ 2 p'
        · rw [z, va_up_s, if_pos (by omega), a_new_s]
        · rw [va_up_n z, hff j hj, a_new_n _ _ _ _ (Or.inr (by omega))]
          by_cases y : j < σ 2 p'
          · rw [if_pos y, if_pos (by omega)]
          · rw [if_neg y, if_neg (by omega)]
      · by_cases z : x = 8 * r + c
        · rw [z, pk_us, g5 s hs, s_bd_shown, e2]
        · rw [pk_un z, hgg x hx s hs]
          have e : ∀ y, s_fl (s_flw σ p' r c k a b) p' x y = s_fl σ p' x y := fun y => by
            unfold s_fl
            rw [e2]
            have e3 : s_fl1 (s_flw σ p' r c k a b) p' x y (σ 2 p') = false := by
              unfold s_fl1
              have e0 := s_flw3s σ p' r c k a b (e := 0) (by omega)
              rw [Nat.add_zero] at e0
              rw [e0, s_flw3s σ p' r c k a b (e := 1) (by omega), decide_eq_false (fun w => z (show x = 8 * r + c from w.symm))]
              rfl
            show (if s_fl1 (s_flw σ p' r c k a b) p' x y (σ 2 p') then _ else s_fln (s_flw σ p' r c k a b) p' x y (σ 2 p')) = _
            rw [e3, if_neg (by decide)]
            exact s_fln_k (n := σ 2 p') (fun j e hj he => s_flw3 _ _ _ _ _ _ _ (by omega)) x y _ (Nat.le_refl _)
          unfold s_shown
          simp only [e]
      · rw [e2] at hj
        by_cases z : j = σ 2 p'
        · have e0 := s_flw3s σ p' r c k a b (e := 0) (by omega)
          rw [Nat.add_zero] at e0
          rw [z, a_new_s, e0, s_flw3s σ p' r c k a b (e := 1) (by omega), s_flw3s σ p' r c k a b (e := 2) (by omega), s_flw3s σ p' r c k a b (e := 3) (by omega), s_flw3s σ p' r c k a b (e := 4) (by omega)]
          exact g3
        · have hj : j < σ 2 p' := by omega
          have ll := l3 p' hp2 j hj
          rw [nα 3 _ ll, aα 3 _ ll (Or.inl (by decide)) (Or.inl (by decide)) (Or.inl (by decide)), s_flw3 _ _ _ _ _ _ _ (by omega), s_flw3 _ _ _ _ _ _ _ (by omega), s_flw3 _ _ _ _ _ _ _ (by omega), s_flw3 _ _ _ _ _ _ _ (by omega), s_flw3 _ _ _ _ _ _ _ (by omega)]
          exact (hpp p' hp2).2.2.2 j hj
    · have hf := (o2 p' hp2).1.2.2.2.2
      exact x_plate.k (σ := σ) rfl rfl (s_flw2 _ _ _ _ _ _ _ y) (v3 p' hp2 y) hf (nα 0 p' hp2) (nα 1 p' hp2) (nα 2 p' hp2) (fun j hj => nα 3 _ (l3 p' hp2 j hj)) (aα 0 p' hp2 (Or.inr y) (Or.inr y) (Or.inr y)) (aα 1 p' hp2 (Or.inr y) (Or.inr y) (Or.inr y)) (aα 2 p' hp2 (Or.inr y) (Or.inr y) (Or.inr y)) (fun j hj => aα 3 _ (l3 p' hp2 j hj) (Or.inl (by decide)) (Or.inl (by decide)) (Or.inl (by decide))) (hpp p' hp2)
  · rw [nα 4 i hi, aα 4 i hi (Or.inl (by decide)) (Or.inl (by decide)) (Or.inl (by decide))]
    exact hpw i hi
  · have d := o4 s hs2
    exact x_sheet.k (σ := σ) (fun _ _ => rfl) rfl (fun _ _ => ⟨rfl, rfl, rfl⟩) (nα 0 _ d.1) (nα 4 _ d.2.1) (nα 5 s hs2) (aα 5 s hs2 (Or.inl (by decide)) (Or.inl (by decide)) (Or.inl (by decide))) (hs s hs2)
  · have d := o5 j hj
    exact x_stamp.k (σ := σ) rfl rfl rfl rfl rfl (fun _ _ => rfl) rfl (nα 5 _ d.1) (nα 6 j hj) (nα 7 j hj) (aα 6 j hj (Or.inl (by decide)) (Or.inl (by decide)) (Or.inl (by decide))) (aα 7 j hj (Or.inl (by decide)) (Or.inl (by decide)) (Or.inl (by decide))) (hst j hj)
theorem f_addFlaw_ok {X : Nat → Nat} {α : Nat → Nat → Nat} {τ : Nat → Nat} {σ : jj_S} {η : jj_H} (h : x_rep X α τ σ η) (p r c k a b : Nat) (hp : p < σ 12 0) (hr : r < σ 0 p) (hc : c < σ 1 p) (hk : k ≤ 4) (hab : a < b) (hb : b < 2147483648) (hn : σ 2 p < 10) : jj_HX mX6_addFlaw [.ref (X 0), .int (nI p), .int (nI r), .int (nI c), .int (nI k), .int (nI a), .int (nI b)] η 1 4 (fun v η' => v = some (.int (nI (σ 2 p + 1))) ∧ (∃ α' τ', x_rep X α' τ' (s_flw σ p r c k a b) η' ∧ ∀ b, η b ≠ none → τ' b = τ b) ∧ x_fr τ η η') (fun _ => False) := by
  have h0 := h.2.2.1
  have hx := h.plate hp
  have hok := h.okp hp
  obtain ⟨pl, ⟨f, hf, hff⟩, ⟨g, hg, hgg⟩, h3⟩ := id hx
  have r8 := hok.1
  have e4 : (nI 4).toInt = 4 := rfl
  obtain ⟨p1, p2, p3⟩ := x_tag.ap h.1 h.2.1
  have l3 : ∀ j, j < σ 2 p → s_live σ 3 (10 * p + j) := fun j hj => by
    have e1 : (10 * p + j) / 10 = p := by omega
    have e2 : (10 * p + j) % 10 = j := by omega
    show (10 * p + j) / 10 < σ 12 0 ∧ (10 * p + j) % 10 < σ 2 ((10 * p + j) / 10)
    rw [e1, e2]
    exact ⟨hp, hj⟩
  have n01 : α 0 p ≠ α 1 p := p3 0 p 1 p hp hp (Or.inl (by decide))
  have n02 : α 0 p ≠ α 2 p := p3 0 p 2 p hp hp (Or.inl (by decide))
  have n12 : α 1 p ≠ α 2 p := p3 1 p 2 p hp hp (Or.inl (by decide))
  refine jj_gx tok_X6_addFlaw zok_X6 py_6 rfl 120 fun J => ?_
  refine ⟨_, h0, 0, 0, _, c_plateN_some h p hp, Nat.zero_le _, Nat.zero_le _, fun v η' hv => ?_⟩
  obtain ⟨rfl, rfl⟩ := hv
  refine ⟨_, pl, 0, 0, _, c_hp_in η' _ _ _ r c (nI r) (nI c) _ _ _ pl (by omega) (by omega) hr hc rfl rfl, Nat.zero_le _, Nat.zero_le _, fun v η'' hv => ?_⟩
  obtain ⟨rfl, rfl⟩ := hv
  refine ⟨fun c1 => ?_, fun c1 => absurd (Classical.not_not.mp c1) (by decide)⟩
  refine ⟨0, 0, _, c_isOutside η'' _ _ _, Nat.zero_le _, Nat.zero_le _, fun v η' hv => ?_⟩
  obtain ⟨rfl, rfl⟩ := hv
  refine ⟨fun c2 => ?_, fun c2 => ⟨fun c3 => ?_, fun c3 => ⟨fun c4 => ?_, fun c4 => ?_⟩⟩⟩
  · have c2 := b01_ne0 c2
    rw [i0, e4, iN (by omega)] at c2
    simp at c2
    omega
  · rw [cb_lt, i0, iN (by omega)] at c3
    omega
  · refine ⟨_, pl, 0, 0, _, c_isFull hx.pl0 hok, Nat.zero_le _, Nat.zero_le _, fun v η'' hv => ?_⟩
    obtain ⟨rfl, rfl⟩ := hv
    refine ⟨fun c5 => ?_, fun c5 => absurd (b01_ne0 c5) (by rw [decide_eq_true_eq]; omega)⟩
    refine ⟨by decide, by decide, fun q hq => ?_⟩
    have q0 : q ≠ α 0 p := fun z => h.stands.2 0 p hp (by rw [← z]; exact hq)
    have q1 : q ≠ α 1 p := fun z => h.stands.2 1 p hp (by rw [← z]; exact hq)
    have q2 : q ≠ α 2 p := fun z => h.stands.2 2 p hp (by rw [← z]; exact hq)
    refine ⟨0, 0, _, c_placeX _ r c, by decide, by decide, fun v η1 hv => ?_⟩
    obtain ⟨rfl, rfl⟩ := hv
    refine ⟨0, 0, _, c_flaw_init _ q (nI (8 * r + c)) (nI k) (nI a) (nI b) _ _ _ _ up_s, by decide, by decide, fun v η1 hv => ?_⟩
    obtain ⟨rfl, g1, g2⟩ := hv
    have st : ∀ y, y ≠ q → η1 y = η'' y := fun y hy => (g2 y hy).trans (up_n hy)
    refine ⟨_, (st _ (Ne.symm q0)).trans pl, 0, 0, _, c_putFlaw (f := f) (g := g) ((st _ (Ne.symm q0)).trans pl) ((st _ (Ne.symm q1)).trans hf) hff ((st _ (Ne.symm q2)).trans hg) (fun j hj => (st _ (fun z => h.stands.2 3 _ (l3 j hj) (by rw [z]; exact hq))).trans (h3 j hj)) g1 hok hn hr hc hk hab hb n01 n02 n12 q0 q1 (fun j hj => ⟨p3 3 _ 0 p (l3 j hj) hp (Or.inl (by decide)), p3 3 _ 1 p (l3 j hj) hp (Or.inl (by decide))⟩), by decide, by decide, fun v η2 hv => ?_⟩
    obtain ⟨rfl, S, rfl, hS⟩ := hv
    refine ⟨trivial, ⟨rfl, ⟨_, _, h.flw (f := f) (g := g) (S := S) hp hn hr hc hk hab hb hq hff hgg ((up_n n02).trans up_s) ((up_n n12).trans ((up_n (Ne.symm n01)).trans up_s)) ((up_n q2).trans ((up_n q0).trans ((up_n q1).trans g1))) up_s hS fun y y0 y1 y2 y3 => (up_n y2).trans ((up_n y0).trans ((up_n y1).trans (st y y3))), fun y hy => if_neg fun z => hy (by rw [z]; exact hq)⟩, fun y hy b1 b2 => ?_⟩, by decide, by decide⟩
    have t0 := h.2.1.2 0 p hp
    have t1 := h.2.1.2 1 p hp
    have t2 := h.2.1.2 2 p hp
    have y0 : y ≠ α 0 p := fun z => by rw [← z] at t0; omega
    have y1 : y ≠ α 1 p := fun z => by rw [← z] at t1; omega
    have y2 : y ≠ α 2 p := fun z => by rw [← z] at t2; omega
    have y3 : y ≠ q := fun z => hy (by rw [z]; exact hq)
    exact (up_n y2).trans ((up_n y0).trans ((up_n y1).trans (st y y3)))
  · rw [cb_gt, iN (by omega), iN (by omega)] at c4
    omega
theorem f_addFlaw_x1 {X : Nat → Nat} {α : Nat → Nat → Nat} {τ : Nat → Nat} {σ : jj_S} {η : jj_H} (h : x_rep X α τ σ η) (p r c k a b : Int32) (hj : ∀ p', p = nI p' → p' < σ 12 0 → (jin r (σ 0 p') && jin c (σ 1 p')) = false) : jj_HX mX6_addFlaw [.ref (X 0), .int p, .int r, .int c, .int k, .int a, .int b] η 1 6 (fun _ _ => False) (fun E => E = eI) := by
  have h0 := h.2.2.1
  cases hs : jin p (σ 12 0) with
  | false =>
    refine jj_gx tok_X6_addFlaw zok_X6 py_6 rfl 120 fun J => ?_
    refine ⟨_, h0, 0, 0, _, c_plateN_none h p hs, Nat.zero_le _, Nat.zero_le _, fun v η' hv => ?_⟩
    obtain ⟨rfl, rfl⟩ := hv
    exact ⟨⟨rfl, rfl⟩, Nat.le_refl _, Nat.le_refl _⟩
  | true =>
    obtain ⟨p, rfl, hp, -⟩ := jin_of hs
    have hj := hj p rfl hp
    have pl := (h.plate hp).1
    have r8 := (h.okp hp).1
    refine jj_gx tok_X6_addFlaw zok_X6 py_6 rfl 120 fun J => ?_
    refine ⟨_, h0, 0, 0, _, c_plateN_some h p hp, Nat.zero_le _, Nat.zero_le _, fun v η' hv => ?_⟩
    obtain ⟨rfl, rfl⟩ := hv
    refine ⟨_, pl, 0, 0, _, c_hp_out η' _ _ _ r c _ _ _ pl (by omega) (by omega) (by
      simp [jin] at hj
      omega), Nat.zero_le _, Nat.zero_le _, fun v η'' hv => ?_⟩
    obtain ⟨rfl, rfl⟩ := hv
    exact ⟨fun c1 => absurd rfl c1, fun c1 => ⟨⟨rfl, rfl⟩, Nat.le_refl _, Nat.le_refl _⟩⟩
theorem f_addFlaw_x2 {X : Nat → Nat} {α : Nat → Nat → Nat} {τ : Nat → Nat} {σ : jj_S} {η : jj_H} (h : x_rep X α τ σ η) (p r c : Nat) (k a b : Int32) (hp : p < σ 12 0) (hr : r < σ 0 p) (hc : c < σ 1 p) (hx : (jin k 5 && decide (0 ≤ a.toInt) && decide (a.toInt < b.toInt)) = false) : jj_HX mX6_addFlaw [.ref (X 0), .int (nI p), .int (nI r), .int (nI c), .int k, .int a, .int b] η 1 6 (fun _ _ => False) (fun E => E = eA) := by
  have h0 := h.2.2.1
  have pl := (h.plate hp).1
  have r8 := (h.okp hp).1
  have e4 : (nI 4).toInt = 4 := rfl
  refine jj_gx tok_X6_addFlaw zok_X6 py_6 rfl 120 fun J => ?_
  refine ⟨_, h0, 0, 0, _, c_plateN_some h p hp, Nat.zero_le _, Nat.zero_le _, fun v η' hv => ?_⟩
  obtain ⟨rfl, rfl⟩ := hv
  refine ⟨_, pl, 0, 0, _, c_hp_in η' _ _ _ r c (nI r) (nI c) _ _ _ pl (by omega) (by omega) hr hc rfl rfl, Nat.zero_le _, Nat.zero_le _, fun v η'' hv => ?_⟩
  obtain ⟨rfl, rfl⟩ := hv
  refine ⟨fun c1 => ?_, fun c1 => absurd (Classical.not_not.mp c1) (by decide)⟩
  refine ⟨0, 0, _, c_isOutside η'' _ _ _, Nat.zero_le _, Nat.zero_le _, fun v η' hv => ?_⟩
  obtain ⟨rfl, rfl⟩ := hv
  refine ⟨fun c2 => ⟨⟨rfl, rfl⟩, Nat.le_refl _, Nat.le_refl _⟩, fun c2 => ⟨fun c3 => ⟨⟨rfl, rfl⟩, Nat.le_refl _, Nat.le_refl _⟩, fun c3 => ⟨fun c4 => ?_, fun c4 => ⟨⟨rfl, rfl⟩, Nat.le_refl _, Nat.le_refl _⟩⟩⟩⟩
  have c2 := b01_eq0 (Classical.not_not.mp c2)
  rw [i0, e4] at c2
  rw [cb_lt, i0] at c3
  rw [cb_gt] at c4
  simp [jin] at c2 hx
  omega
theorem f_addFlaw_x3 {X : Nat → Nat} {α : Nat → Nat → Nat} {τ : Nat → Nat} {σ : jj_S} {η : jj_H} (h : x_rep X α τ σ η) (p r c k a b : Nat) (hp : p < σ 12 0) (hr : r < σ 0 p) (hc : c < σ 1 p) (hk : k ≤ 4) (hab : a < b) (hb : b < 2147483648) (hn : σ 2 p = 10) : jj_HX mX6_addFlaw [.ref (X 0), .int (nI p), .int (nI r), .int (nI c), .int (nI k), .int (nI a), .int (nI b)] η 1 6 (fun _ _ => False) (fun E => E = eS) := by
  have h0 := h.2.2.1
  have pl := (h.plate hp).1
  have hok := h.okp hp
  have r8 := hok.1
  have e4 : (nI 4).toInt = 4 := rfl
  refine jj_gx tok_X6_addFlaw zok_X6 py_6 rfl 120 fun J => ?_
  refine ⟨_, h0, 0, 0, _, c_plateN_some h p hp, Nat.zero_le _, Nat.zero_le _, fun v η' hv => ?_⟩
  obtain ⟨rfl, rfl⟩ := hv
  refine ⟨_, pl, 0, 0, _, c_hp_in η' _ _ _ r c (nI r) (nI c) _ _ _ pl (by omega) (by omega) hr hc rfl rfl, Nat.zero_le _, Nat.zero_le _, fun v η'' hv => ?_⟩
  obtain ⟨rfl, rfl⟩ := hv
  refine ⟨fun c1 => ?_, fun c1 => absurd (Classical.not_not.mp c1) (by decide)⟩
  refine ⟨0, 0, _, c_isOutside η'' _ _ _, Nat.zero_le _, Nat.zero_le _, fun v η' hv => ?_⟩
  obtain ⟨rfl, rfl⟩ := hv
  refine ⟨fun c2 => ?_, fun c2 => ⟨fun c3 => ?_, fun c3 => ⟨fun c4 => ?_, fun c4 => ?_⟩⟩⟩
  · have c2 := b01_ne0 c2
    rw [i0, e4, iN (by omega)] at c2
    simp at c2
    omega
  · rw [cb_lt, i0, iN (by omega)] at c3
    omega
  · refine ⟨_, pl, 0, 0, _, c_isFull (h.plate hp).pl0 hok, Nat.zero_le _, Nat.zero_le _, fun v η'' hv => ?_⟩
    obtain ⟨rfl, rfl⟩ := hv
    refine ⟨fun c5 => ?_, fun c5 => ⟨⟨rfl, rfl⟩, Nat.le_refl _, Nat.le_refl _⟩⟩
    have c5 := b01_eq0 c5
    simp [hn] at c5
  · rw [cb_gt, iN (by omega), iN (by omega)] at c4
    omega
