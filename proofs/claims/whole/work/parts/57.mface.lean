/-! THE CHECK's FACE: WHAT ONLY READS -/
/-- only the check's own rows may be another; more may be made -/
def m_fr (Y : Nat → Nat) (η η' : jj_H) : Prop := ∀ b, η b ≠ none → (∀ i, i < 13 → b ≠ Y i) → η' b = η b
theorem m_fr.rf {Y : Nat → Nat} {η : jj_H} : m_fr Y η η := fun _ _ _ => rfl
theorem m_fr.tr {Y : Nat → Nat} {η η' η'' : jj_H} (h : m_fr Y η η') (h2 : m_fr Y η' η'') : m_fr Y η η'' := fun b hb hy => (h2 b (by rw [h b hb hy]; exact hb) hy).trans (h b hb hy)
theorem m_fr.y {Y : Nat → Nat} {η η' : jj_H} (h : m_fr Y η η') (i : Nat) (hi : i < 13) {e : va_E} : m_fr Y η (jj_up η' (Y i) e) := fun b hb hy => (up_n (hy i hi)).trans (h b hb hy)
theorem n_fr.m {Y : Nat → Nat} {η η' : jj_H} (h : n_fr η η') : m_fr Y η η' := fun b hb _ => h b hb
/-- an answer x, the flag th, the rows σ -/
def m_P (Y : Nat → Nat) (η : jj_H) (σ : jj_S) (th x : Int32) (v : Option Value) (η' : jj_H) : Prop := v = some (.int x) ∧ m_rep Y σ th η' ∧ m_fr Y η η'
theorem m_no {Y : Nat → Nat} {σ : jj_S} {th : Int32} {η : jj_H} (h : m_rep Y σ th η) (t : Int32) : m_P Y η σ t 0 (some (.int 0)) (jj_up (jj_up η (Y 0) (m_o Y σ 0)) (Y 0) (m_o Y σ t)) :=
  ⟨rfl, (h.th 0).th t, (m_fr.rf.y 0 (by decide)).y 0 (by decide)⟩
theorem m_yes {Y : Nat → Nat} {σ : jj_S} {th : Int32} {η η' : jj_H} (h : m_rep Y σ th η) {x : Int32} (g : n_fr (jj_up η (Y 0) (m_o Y σ 0)) η') : m_P Y η σ 0 x (some (.int x)) η' :=
  ⟨rfl, (h.th 0).fr g, (m_fr.rf.y 0 (by decide)).tr g.m⟩
theorem i_cmp_ne0 : jj_cb .ne (nI 1) 0 := by show ¬ (_ = _); decide
theorem m_stamp_ok {Y : Nat → Nat} {σ : jj_S} {th : Int32} {η : jj_H} (h : m_rep Y σ th η) (ok : s_ok σ) (k w : Nat) (hk : k < σ 12 3) (hw : w < 11) : jj_Ht mX7_stamp [.ref (Y 0), .int (nI k), .int (nI w)] η 1 7 (m_P Y η σ 0 (s_det σ k w)) := by
  have hn := ok.1.2.2.2
  have h' := h.th 0
  refine jj_go tok_X7_stamp zok_X7 py_7 rfl 60 fun J => ?_
  refine ⟨_, h.o, _, h'.o, 0, 0, _, c_isStamp h' (nI k) hn, Nat.zero_le _, Nat.zero_le _, fun v η' hv => ?_⟩
  obtain ⟨rfl, rfl⟩ := hv
  refine ⟨fun c1 => ?_, fun c1 => ⟨0, 0, _, c_isIn0 _ (nI w) (nI 10) 11 rfl, Nat.zero_le _, Nat.zero_le _, fun v η' hv => ?_⟩⟩
  · have c1 := b01_eq0 c1
    rw [jin_nI (by omega), decide_eq_false_iff_not] at c1
    exact absurd hk c1
  obtain ⟨rfl, rfl⟩ := hv
  refine ⟨fun c2 => ?_, fun c2 => ?_⟩
  · have c2 := b01_eq0 c2
    rw [jin_nI (by omega), decide_eq_false_iff_not] at c2
    exact absurd hw c2
  refine ⟨_, h'.o, 1, 7, _, c_stampTold h' ok k w hk hw, by decide, by decide, fun v η' hv => ?_⟩
  obtain ⟨rfl, hf⟩ := hv
  exact ⟨trivial, m_yes h hf, by decide, by decide⟩
theorem m_stamp_x {Y : Nat → Nat} {σ : jj_S} {th : Int32} {η : jj_H} (h : m_rep Y σ th η) (ok : s_ok σ) (k w : Int32) (hj : (jin k (σ 12 3) && jin w 11) = false) : jj_Ht mX7_stamp [.ref (Y 0), .int k, .int w] η 0 0 (m_P Y η σ (nI 1) 0) := by
  have hn := ok.1.2.2.2
  have h' := h.th 0
  refine jj_go tok_X7_stamp zok_X7 py_7 rfl 60 fun J => ?_
  refine ⟨_, h.o, _, h'.o, 0, 0, _, c_isStamp h' k hn, Nat.zero_le _, Nat.zero_le _, fun v η' hv => ?_⟩
  obtain ⟨rfl, rfl⟩ := hv
  have fin : jj_Ht mX7_no [.ref (Y 0), .int (nI 1)] (jj_up η (Y 0) (m_o Y σ 0)) 0 0 (m_P Y η σ (nI 1) 0) := (c_no h' (nI 1)).mono (by rintro v η' ⟨rfl, rfl⟩; exact m_no h _)
  refine ⟨fun c1 => ⟨_, h'.o, 0, 0, _, fin, Nat.zero_le _, Nat.zero_le _, fun v η' hv => ?_⟩, fun c1 => ⟨0, 0, _, c_isIn0 _ w (nI 10) 11 rfl, Nat.zero_le _, Nat.zero_le _, fun v η' hv => ?_⟩⟩
  · have hv2 := hv
    obtain ⟨rfl, -⟩ := hv
    exact ⟨trivial, hv2, by decide, by decide⟩
  obtain ⟨rfl, rfl⟩ := hv
  refine ⟨fun c2 => ⟨_, h'.o, 0, 0, _, fin, Nat.zero_le _, Nat.zero_le _, fun v η' hv => ?_⟩, fun c2 => ?_⟩
  · have hv2 := hv
    obtain ⟨rfl, -⟩ := hv
    exact ⟨trivial, hv2, by decide, by decide⟩
  · rw [b01_ne0 c1, b01_ne0 c2] at hj
    cases hj
theorem m_fits_ok {Y : Nat → Nat} {σ : jj_S} {th : Int32} {η : jj_H} (h : m_rep Y σ th η) (ok : s_ok σ) (a d b : Nat) (ha : a < σ 12 3) (hd : d < 4) (hb : b < σ 12 3) (hab : a ≠ b) : jj_Ht mX7_fits [.ref (Y 0), .int (nI a), .int (nI d), .int (nI b)] η 0 0 (m_P Y η σ 0 (b01 (s_fit σ a d b))) := by
  have hn := ok.1.2.2.2
  have h' := h.th 0
  refine jj_go tok_X7_fits zok_X7 py_7 rfl 80 fun J => ?_
  refine ⟨_, h.o, _, h'.o, 0, 0, _, c_isStamp h' (nI a) hn, Nat.zero_le _, Nat.zero_le _, fun v η' hv => ?_⟩
  obtain ⟨rfl, rfl⟩ := hv
  refine ⟨fun c1 => ?_, fun c1 => ⟨_, h'.o, 0, 0, _, c_isStamp h' (nI b) hn, Nat.zero_le _, Nat.zero_le _, fun v η' hv => ?_⟩⟩
  · have c1 := b01_eq0 c1
    rw [jin_nI (by omega), decide_eq_false_iff_not] at c1
    exact absurd ha c1
  obtain ⟨rfl, rfl⟩ := hv
  refine ⟨fun c1 => ?_, fun c1 => ⟨0, 0, _, c_isIn0 _ (nI d) (nI 3) 4 rfl, Nat.zero_le _, Nat.zero_le _, fun v η' hv => ?_⟩⟩
  · have c1 := b01_eq0 c1
    rw [jin_nI (by omega), decide_eq_false_iff_not] at c1
    exact absurd hb c1
  obtain ⟨rfl, rfl⟩ := hv
  refine ⟨fun c1 => ?_, fun c1 => ?_⟩
  · refine ⟨fun c2 => ⟨_, h'.o, fun c3 => absurd rfl c3, fun c3 => ⟨_, h'.o, 0, 0, _, c_fit h' ok a d b ha hb hd, Nat.zero_le _, Nat.zero_le _, fun v η' hv => ?_⟩⟩, fun c2 => ?_⟩
    · obtain ⟨rfl, rfl⟩ := hv
      refine ⟨fun c4 => ⟨Or.inl rfl, ?_, Nat.zero_le _, Nat.zero_le _⟩, fun c4 => ⟨Or.inr rfl, ?_, Nat.zero_le _, Nat.zero_le _⟩⟩
      · rw [b01_eq0 c4]
        exact m_yes h n_fr.rf
      · rw [b01_ne0 c4]
        exact m_yes h n_fr.rf
    · rw [cb_ne, iN (by omega), iN (by omega)] at c2
      omega
  · have c1 := b01_eq0 (Classical.not_not.mp c1)
    rw [jin_nI (by omega), decide_eq_false_iff_not] at c1
    exact absurd hd c1
theorem m_fits_x1 {Y : Nat → Nat} {σ : jj_S} {th : Int32} {η : jj_H} (h : m_rep Y σ th η) (ok : s_ok σ) (a d b : Int32) (hj : (jin a (σ 12 3) && jin b (σ 12 3) && jin d 4) = false) : jj_Ht mX7_fits [.ref (Y 0), .int a, .int d, .int b] η 0 0 (m_P Y η σ (nI 1) 0) := by
  have hn := ok.1.2.2.2
  have h' := h.th 0
  have h1 := h'.th (nI 1)
  refine jj_go tok_X7_fits zok_X7 py_7 rfl 80 fun J => ?_
  refine ⟨_, h.o, _, h'.o, 0, 0, _, c_isStamp h' a hn, Nat.zero_le _, Nat.zero_le _, fun v η' hv => ?_⟩
  obtain ⟨rfl, rfl⟩ := hv
  refine ⟨fun c1 => ⟨_, h'.o, _, h1.o, fun c3 => ⟨Or.inl rfl, m_no h _, Nat.zero_le _, Nat.zero_le _⟩, fun c3 => absurd i_cmp_ne0 c3⟩, fun c1 => ⟨_, h'.o, 0, 0, _, c_isStamp h' b hn, Nat.zero_le _, Nat.zero_le _, fun v η' hv => ?_⟩⟩
  obtain ⟨rfl, rfl⟩ := hv
  refine ⟨fun c2 => ⟨_, h'.o, _, h1.o, fun c3 => ⟨Or.inl rfl, m_no h _, Nat.zero_le _, Nat.zero_le _⟩, fun c3 => absurd i_cmp_ne0 c3⟩, fun c2 => ⟨0, 0, _, c_isIn0 _ d (nI 3) 4 rfl, Nat.zero_le _, Nat.zero_le _, fun v η' hv => ?_⟩⟩
  obtain ⟨rfl, rfl⟩ := hv
  refine ⟨fun c3 => ?_, fun c3 => ⟨_, h'.o, _, h1.o, fun c3 => ⟨Or.inl rfl, m_no h _, Nat.zero_le _, Nat.zero_le _⟩, fun c3 => absurd i_cmp_ne0 c3⟩⟩
  rw [b01_ne0 c1, b01_ne0 c2, b01_ne0 c3] at hj
  cases hj
theorem m_fits_x2 {Y : Nat → Nat} {σ : jj_S} {th : Int32} {η : jj_H} (h : m_rep Y σ th η) (ok : s_ok σ) (a d : Nat) (ha : a < σ 12 3) (hd : d < 4) : jj_Ht mX7_fits [.ref (Y 0), .int (nI a), .int (nI d), .int (nI a)] η 0 0 (m_P Y η σ (nI 2) 0) := by
  have hn := ok.1.2.2.2
  have h' := h.th 0
  have h1 := h'.th (nI 2)
  refine jj_go tok_X7_fits zok_X7 py_7 rfl 80 fun J => ?_
  refine ⟨_, h.o, _, h'.o, 0, 0, _, c_isStamp h' (nI a) hn, Nat.zero_le _, Nat.zero_le _, fun v η' hv => ?_⟩
  obtain ⟨rfl, rfl⟩ := hv
  have hx : jin (nI a) (σ 12 3) = true := by
    rw [jin_nI (by omega)]
    exact decide_eq_true ha
  refine ⟨fun c1 => absurd (b01_eq0 c1) (by rw [hx]; decide), fun c1 => ⟨_, h'.o, 0, 0, _, c_isStamp h' (nI a) hn, Nat.zero_le _, Nat.zero_le _, fun v η' hv => ?_⟩⟩
  obtain ⟨rfl, rfl⟩ := hv
  refine ⟨fun c1 => absurd (b01_eq0 c1) (by rw [hx]; decide), fun c1 => ⟨0, 0, _, c_isIn0 _ (nI d) (nI 3) 4 rfl, Nat.zero_le _, Nat.zero_le _, fun v η' hv => ?_⟩⟩
  obtain ⟨rfl, rfl⟩ := hv
  refine ⟨fun c1 => ?_, fun c1 => ?_⟩
  · exact ⟨fun c2 => absurd rfl c2, fun c2 => ⟨_, h'.o, _, h1.o, fun c3 => ⟨Or.inl rfl, m_no h _, Nat.zero_le _, Nat.zero_le _⟩, fun c3 => absurd (show ¬ nI 2 = 0 by decide) c3⟩⟩
  · have c1 := b01_eq0 (Classical.not_not.mp c1)
    rw [jin_nI (by omega), decide_eq_false_iff_not] at c1
    exact absurd hd c1
/-- what is found among the first stamps is found among all -/
theorem s_fnd_out {p : Nat → Bool} {i n : Nat} (h : ∀ j, n ≤ j → p j = false) : ∀ m, s_fnd p i (n + m) = s_fnd p i n
  | 0 => rfl
  | m + 1 => by
    have ih := s_fnd_out h (i := i) m
    show (match s_fnd p i (n + m) with
      | some j => some j
      | none => if p (n + m) = true ∧ fb_ct p (n + m) = i then some (n + m) else none) = _
    rw [ih, h (n + m) (by omega)]
    cases s_fnd p i n with
    | some j => rfl
    | none => rfl
theorem s_fit_self (σ : jj_S) (a d : Nat) : s_fit σ a d a = false := by
  unfold s_fit
  rw [decide_eq_false (show ¬ a ≠ a from fun z => z rfl)]
  simp
theorem m_fitting_ok {Y : Nat → Nat} {σ : jj_S} {th : Int32} {η : jj_H} (h : m_rep Y σ th η) (ok : s_ok σ) (k d i : Nat) (hk : k < σ 12 3) (hd : d < 4) (hi : i < 2147483648) : jj_Ht mX7_fitting [.ref (Y 0), .int (nI k), .int (nI d), .int (nI i)] η 0 0 (m_P Y η σ 0 (oI (s_fnd (s_fk σ k d) i 40))) := by
  have hn := ok.1.2.2.2
  have h' := h.th 0
  have e40 : s_fnd (s_fk σ k d) i 40 = s_fnd (s_fk σ k d) i (σ 12 3) := by
    have := s_fnd_out (p := s_fk σ k d) (i := i) (n := σ 12 3) (fun j hj => by unfold s_fk; rw [decide_eq_false (by omega)]; rfl) (40 - σ 12 3)
    rw [show σ 12 3 + (40 - σ 12 3) = 40 by omega] at this
    exact this
  rw [e40]
  refine jj_lp tok_X7_fitting zok_X7 py_7 rfl fun J run => ?_
  have loop : ∀ m j, j + m = σ 12 3 → s_fnd (s_fk σ k d) i j = none → J (jj_up η (Y 0) (m_o Y σ 0)) 0 0 38 [(0, .ref (Y 0)), (1, .int (nI k)), (2, .int (nI d)), (3, .int (nI i)), (4, .int (nI (i - fb_ct (s_fk σ k d) j))), (5, .int (nI j))] [] := by
    intro m
    induction m with
    | zero =>
      intro j hj hs
      have hj : j = σ 12 3 := hj
      refine run [] 20 ?_
      refine ⟨_, h'.o, fun c1 => ?_, fun c1 => ?_⟩
      · rw [hj] at hs
        refine ⟨trivial, ?_, Nat.zero_le _, Nat.zero_le _⟩
        rw [hs]
        exact m_yes h n_fr.rf
      · rw [cb_ge, iN (by omega), iN (by omega)] at c1
        omega
    | succ m ih =>
      intro j hj hs
      have ih := ih (j + 1) (by omega)
      have hle := s_fnd_le hs
      rw [← nI_add j 1] at ih
      have un : s_fnd (s_fk σ k d) i (j + 1) = if s_fk σ k d j = true ∧ fb_ct (s_fk σ k d) j = i then some j else none := by
        conv => lhs; unfold s_fnd
        rw [hs]
      have hin : j < σ 12 3 := by omega
      refine run [(38, 6)] 60 ?_
      refine ⟨_, h'.o, fun c1 => ?_, fun c1 => ⟨_, h'.o, 0, 0, _, c_fit h' ok k d j hk hin hd, Nat.zero_le _, Nat.zero_le _, fun v η' hv => ?_⟩⟩
      · rw [cb_ge, iN (by omega), iN (by omega)] at c1
        omega
      obtain ⟨rfl, rfl⟩ := hv
      refine ⟨fun c2 => ⟨fun c3 => ?_, fun c3 => ?_⟩, fun c2 => ?_⟩
      · have c2 := b01_ne0 c2
        have z : s_fk σ k d j = true := by unfold s_fk; rw [c2]; simp [hin]
        rw [cb_ne, i0, iN (by omega)] at c3
        have e : fb_ct (s_fk σ k d) (j + 1) = fb_ct (s_fk σ k d) j + 1 := by
          rw [fb_ct_succ, z]
          rfl
        have e2 : i - fb_ct (s_fk σ k d) j = (i - (fb_ct (s_fk σ k d) j + 1)) + 1 := by omega
        rw [un, z, e, ← pk_m1 (i - (fb_ct (s_fk σ k d) j + 1)), ← e2] at ih
        exact ih (if_neg (fun q => by omega))
      · have c2 := b01_ne0 c2
        have z : s_fk σ k d j = true := by unfold s_fk; rw [c2]; simp [hin]
        rw [cb_ne, i0, iN (by omega)] at c3
        refine ⟨trivial, ?_, Nat.zero_le _, Nat.zero_le _⟩
        have st : s_fnd (s_fk σ k d) i (j + 1) = some j := by rw [un, if_pos ⟨z, by omega⟩]
        have := s_fnd_st st m
        rw [show j + 1 + m = σ 12 3 by omega] at this
        rw [this]
        exact m_yes h n_fr.rf
      · have c2 := b01_eq0 (Classical.not_not.mp c2)
        have z : s_fk σ k d j = false := by unfold s_fk; rw [c2]; exact Bool.and_false _
        have e : fb_ct (s_fk σ k d) (j + 1) = fb_ct (s_fk σ k d) j := by
          rw [fb_ct_succ, z]
          rfl
        rw [un, z, e] at ih
        exact ih (if_neg (fun q => by cases q.1))
  refine run [(38, 6)] 60 ?_
  refine ⟨_, h.o, _, h'.o, 0, 0, _, c_isStamp h' (nI k) hn, Nat.zero_le _, Nat.zero_le _, fun v η' hv => ?_⟩
  obtain ⟨rfl, rfl⟩ := hv
  refine ⟨fun c1 => ?_, fun c1 => ⟨0, 0, _, c_isIn0 _ (nI d) (nI 3) 4 rfl, Nat.zero_le _, Nat.zero_le _, fun v η' hv => ?_⟩⟩
  · have c1 := b01_eq0 c1
    rw [jin_nI (by omega), decide_eq_false_iff_not] at c1
    exact absurd hk c1
  obtain ⟨rfl, rfl⟩ := hv
  refine ⟨fun c1 => ?_, fun c1 => ⟨fun c2 => ?_, fun c2 => ?_⟩⟩
  · have c1 := b01_eq0 c1
    rw [jin_nI (by omega), decide_eq_false_iff_not] at c1
    exact absurd hd c1
  · exact loop (σ 12 3) 0 (by omega) rfl
  · rw [cb_ge, i0, iN (by omega)] at c2
    omega
theorem m_fitting_x {Y : Nat → Nat} {σ : jj_S} {th : Int32} {η : jj_H} (h : m_rep Y σ th η) (ok : s_ok σ) (k d i : Int32) (hj : (jin k (σ 12 3) && jin d 4 && decide (0 ≤ i.toInt)) = false) : jj_Ht mX7_fitting [.ref (Y 0), .int k, .int d, .int i] η 0 0 (m_P Y η σ (nI 1) 0) := by
  have hn := ok.1.2.2.2
  have h' := h.th 0
  have fin : jj_Ht mX7_no [.ref (Y 0), .int (nI 1)] (jj_up η (Y 0) (m_o Y σ 0)) 0 0 (m_P Y η σ (nI 1) 0) := (c_no h' (nI 1)).mono (by rintro v η' ⟨rfl, rfl⟩; exact m_no h _)
  refine jj_go tok_X7_fitting zok_X7 py_7 rfl 60 fun J => ?_
  refine ⟨_, h.o, _, h'.o, 0, 0, _, c_isStamp h' k hn, Nat.zero_le _, Nat.zero_le _, fun v η' hv => ?_⟩
  obtain ⟨rfl, rfl⟩ := hv
  refine ⟨fun c1 => ⟨_, h'.o, 0, 0, _, fin, Nat.zero_le _, Nat.zero_le _, fun v η' hv => ?_⟩, fun c1 => ⟨0, 0, _, c_isIn0 _ d (nI 3) 4 rfl, Nat.zero_le _, Nat.zero_le _, fun v η' hv => ?_⟩⟩
  · have hv2 := hv
    obtain ⟨rfl, -⟩ := hv
    exact ⟨trivial, hv2, by decide, by decide⟩
  obtain ⟨rfl, rfl⟩ := hv
  refine ⟨fun c2 => ⟨_, h'.o, 0, 0, _, fin, Nat.zero_le _, Nat.zero_le _, fun v η' hv => ?_⟩, fun c2 => ⟨fun c3 => ?_, fun c3 => ⟨_, h'.o, 0, 0, _, fin, Nat.zero_le _, Nat.zero_le _, fun v η' hv => ?_⟩⟩⟩
  · have hv2 := hv
    obtain ⟨rfl, -⟩ := hv
    exact ⟨trivial, hv2, by decide, by decide⟩
  · rw [b01_ne0 c1, b01_ne0 c2] at hj
    rw [cb_ge, i0] at c3
    simp at hj
    omega
  · have hv2 := hv
    obtain ⟨rfl, -⟩ := hv
    exact ⟨trivial, hv2, by decide, by decide⟩
