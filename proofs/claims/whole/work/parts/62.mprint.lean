theorem s_prn_o (σ : jj_S) (p w r z : Nat) {j : Nat} (h : j < 8 * σ 12 2 ∨ 8 * σ 12 2 + 8 ≤ j) : s_prn σ p w r z 6 j = σ 6 j := by
  have e : (Nat.ble (8 * σ 12 2) j && Nat.blt j (8 * σ 12 2 + 8)) = false := by
    cases h1 : Nat.ble (8 * σ 12 2) j with
    | false => rfl
    | true =>
      cases h2 : Nat.blt j (8 * σ 12 2 + 8) with
      | false => rfl
      | true =>
        have h1 := Nat.le_of_ble_eq_true h1
        have h2 : j < 8 * σ 12 2 + 8 := Nat.le_of_ble_eq_true h2
        omega
  show (bif true && (Nat.ble (8 * σ 12 2) j && Nat.blt j (8 * σ 12 2 + 8)) then _ else _) = _
  rw [e]
  rfl
theorem m_rep.prn {Y : Nat → Nat} {σ : jj_S} {th : Int32} {η : jj_H} (h : m_rep Y σ th η) {F : Nat → Int32} (p w r s : Nat) (hF : ∀ e, e < 8 → F e = nI (s_prv p w r s e)) : m_rep Y (s_prn σ p w r s) 0 (jj_up (jj_up η (Y 7) (x_i 80 (va_cpy F (fun j => nI (σ 6 j)) 0 (8 * σ 12 2) 8))) (Y 0) (x_o 7 [.int 0, .int (nI (σ 12 0)), .ref (Y 1), .ref (Y 2), .ref (Y 3), .ref (Y 4), .int (nI (σ 12 1)), .ref (Y 5), .ref (Y 6), .int (nI (σ 12 2) + nI 1), .ref (Y 7), .int (nI (σ 12 3)), .ref (Y 8), .ref (Y 9), .ref (Y 10), .ref (Y 11), .ref (Y 12)])) := by
  obtain ⟨d, z, h0, h1, h2, h3, h4, h5, h6, h7, h8, h9, h10, h11, h12⟩ := h
  have n : ∀ i, i < 13 → i ≠ 0 → i ≠ 7 → ∀ e0 e1, jj_up (jj_up η (Y 7) e0) (Y 0) e1 (Y i) = η (Y i) := fun i hi n3 n4 e0 e1 => by
    rw [up_n (d i 0 hi (by decide) n3), up_n (d i 7 hi (by decide) n4)]
  refine ⟨d, z, up_s.trans ?_, (n 1 (by decide) (by decide) (by decide) _ _).trans h1, (n 2 (by decide) (by decide) (by decide) _ _).trans h2, (n 3 (by decide) (by decide) (by decide) _ _).trans h3, (n 4 (by decide) (by decide) (by decide) _ _).trans h4, (n 5 (by decide) (by decide) (by decide) _ _).trans h5, (n 6 (by decide) (by decide) (by decide) _ _).trans h6, (up_n (d 7 0 (by decide) (by decide) (by decide))).trans (up_s.trans ?_), (n 8 (by decide) (by decide) (by decide) _ _).trans h8, (n 9 (by decide) (by decide) (by decide) _ _).trans h9, (n 10 (by decide) (by decide) (by decide) _ _).trans h10, (n 11 (by decide) (by decide) (by decide) _ _).trans h11, (n 12 (by decide) (by decide) (by decide) _ _).trans h12⟩
  · rw [nI_add]
    rfl
  · rw [cpy_fn (G := fun j => nI (s_prn σ p w r s 6 j)) (fun e he => by rw [hF e he, s_prn_s σ p w r s he]) (fun j hj => congrArg nI (s_prn_o σ p w r s hj))]
theorem m_print_ok {Y : Nat → Nat} {σ : jj_S} {th : Int32} {η : jj_H} (h : m_rep Y σ th η) (ok : s_ok σ) (p w r s : Nat) (hp : p < σ 12 0) (hw : w < σ 12 1) (hr : r < 1000) (hs : s < 10000) (hn : σ 12 2 < 10) : jj_Ht mX7_print [.ref (Y 0), .int (nI p), .int (nI w), .int (nI r), .int (nI s)] η 1 8 (m_P Y η (s_prn σ p w r s) 0 (nI (σ 12 2))) := by
  have h' := h.th 0
  obtain ⟨d, -, h0, h1, h2, h3, h4, h5, h6, h7, h8, h9, h10, h11, h12⟩ := id h'
  obtain ⟨o6, o4, -⟩ := ok.1
  have e10 : (nI 10).toInt = 10 := rfl
  have n07 : Y 0 ≠ Y 7 := d 0 7 (by decide) (by decide) (by decide)
  have jp : jin (nI p) (σ 12 0) = true := by rw [jin_nI (by omega)]; exact decide_eq_true hp
  have jw : jin (nI w) (σ 12 1) = true := by rw [jin_nI (by omega)]; exact decide_eq_true hw
  have jr : jin (nI r) 1000 = true := by rw [jin_nI (by omega)]; exact decide_eq_true hr
  have js : jin (nI s) 10000 = true := by rw [jin_nI (by omega)]; exact decide_eq_true hs
  refine jj_go tok_X7_print zok_X7 py_7 rfl 160 fun J => ?_
  refine ⟨_, h.o, _, h0, 0, 0, _, c_isIn0 _ (nI p) _ (σ 12 0) (m_1 (by omega)), Nat.zero_le _, Nat.zero_le _, fun v η' hv => ?_⟩
  obtain ⟨rfl, rfl⟩ := hv
  refine ⟨fun c1 => absurd (b01_eq0 c1) (by rw [jp]; decide), fun c1 => ⟨_, h0, 0, 0, _, c_isIn0 _ (nI w) _ (σ 12 1) (m_1 (by omega)), Nat.zero_le _, Nat.zero_le _, fun v η' hv => ?_⟩⟩
  obtain ⟨rfl, rfl⟩ := hv
  refine ⟨fun c1 => ⟨0, 0, _, c_isIn0 _ (nI r) (nI 999) 1000 rfl, Nat.zero_le _, Nat.zero_le _, fun v η' hv => ?_⟩, fun c1 => absurd (b01_eq0 (Classical.not_not.mp c1)) (by rw [jw]; decide)⟩
  obtain ⟨rfl, rfl⟩ := hv
  refine ⟨fun c1 => absurd (b01_eq0 c1) (by rw [jr]; decide), fun c1 => ⟨0, 0, _, c_isIn0 _ (nI s) (nI 9999) 10000 rfl, Nat.zero_le _, Nat.zero_le _, fun v η' hv => ?_⟩⟩
  obtain ⟨rfl, rfl⟩ := hv
  refine ⟨fun c1 => ⟨_, h0, fun c2 => ?_, fun c2 => ?_⟩, fun c1 => absurd (b01_eq0 (Classical.not_not.mp c1)) (by rw [js]; decide)⟩
  · refine ⟨8, rfl, by decide, by decide, by decide, fun q hq => ?_⟩
    refine ⟨_, _, 0, up_s, nI_0.symm, by decide, _, _, 1, up_s, rfl, by decide, _, _, 2, up_s, rfl, by decide, _, _, 3, up_s, rfl, by decide, _, _, 4, up_s, rfl, by decide, _, _, 5, up_s, rfl, by decide, _, _, 6, up_s, rfl, by decide, _, _, 7, up_s, rfl, by decide, ?_⟩
    have nf : ∀ f0 f1 f2 f3 f4 f5 f6 f7 f8, n_fr (jj_up η (Y 0) (m_o Y σ 0)) (jj_up (jj_up (jj_up (jj_up (jj_up (jj_up (jj_up (jj_up (jj_up (jj_up η (Y 0) (m_o Y σ 0)) q f0) q f1) q f2) q f3) q f4) q f5) q f6) q f7) q f8) := fun f0 f1 f2 f3 f4 f5 f6 f7 f8 => ((((((((n_fr.up1 hq).up hq).up hq).up hq).up hq).up hq).up hq).up hq).up hq
    refine ⟨_, (nf _ _ _ _ _ _ _ _ _).at h0, _, (nf _ _ _ _ _ _ _ _ _).at h0, ?_⟩
    refine ⟨8, _, 80, _, 0, 8 * σ 12 2, 8, up_s, (nf _ _ _ _ _ _ _ _ _).at h7, nI_0.symm, ix80 _, rfl, by omega, by omega, ?_⟩
    refine ⟨_, (up_n n07).trans ((nf _ _ _ _ _ _ _ _ _).at h0), _, (up_n n07).trans ((nf _ _ _ _ _ _ _ _ _).at h0), _, up_s, trivial, ⟨by rw [p1m1], (h'.fr (nf _ _ _ _ _ _ _ _ _)).prn p w r s ?_, (((m_fr.rf.y 0 (by decide)).tr (nf _ _ _ _ _ _ _ _ _).m).y 7 (by decide)).y 0 (by decide)⟩, by decide, by decide⟩
    intro e he
    rcases (show e = 0 ∨ e = 1 ∨ e = 2 ∨ e = 3 ∨ e = 4 ∨ e = 5 ∨ e = 6 ∨ e = 7 by omega) with rfl | rfl | rfl | rfl | rfl | rfl | rfl | rfl <;> rfl
  · rw [cb_ne, e10, iN (by omega)] at c2
    omega
theorem m_print_x1 {Y : Nat → Nat} {σ : jj_S} {th : Int32} {η : jj_H} (h : m_rep Y σ th η) (ok : s_ok σ) (p w r s : Int32) (hj : (jin p (σ 12 0) && jin w (σ 12 1)) = false) : jj_Ht mX7_print [.ref (Y 0), .int p, .int w, .int r, .int s] η 0 0 (m_P Y η σ (nI 1) 0) := by
  have h' := h.th 0
  obtain ⟨o6, o4, -⟩ := ok.1
  have fin : ∀ t v η', m_P Y η σ t 0 v η' → ∃ x, v = some (.int x) ∧ m_P Y η σ t 0 (some (.int x)) η' := fun t v η' hv => ⟨0, hv.1, rfl, hv.2⟩
  refine jj_go tok_X7_print zok_X7 py_7 rfl 160 fun J => ?_
  refine ⟨_, h.o, _, h'.o, 0, 0, _, c_isIn0 _ p _ (σ 12 0) (m_1 (by omega)), Nat.zero_le _, Nat.zero_le _, fun v η' hv => ?_⟩
  obtain ⟨rfl, rfl⟩ := hv
  refine ⟨fun c1 => ⟨_, h'.o, 0, 0, _, m_fin h (nI 1), Nat.zero_le _, Nat.zero_le _, fun v η' hv => ?_⟩, fun c1 => ⟨_, h'.o, 0, 0, _, c_isIn0 _ w _ (σ 12 1) (m_1 (by omega)), Nat.zero_le _, Nat.zero_le _, fun v η' hv => ?_⟩⟩
  · obtain ⟨x, rfl, hv⟩ := fin _ v η' hv
    exact ⟨trivial, hv, by decide, by decide⟩
  obtain ⟨rfl, rfl⟩ := hv
  refine ⟨fun c2 => ?_, fun c2 => ⟨_, h'.o, 0, 0, _, m_fin h (nI 1), Nat.zero_le _, Nat.zero_le _, fun v η' hv => ?_⟩⟩
  · rw [b01_ne0 c1, b01_ne0 c2] at hj
    cases hj
  · obtain ⟨x, rfl, hv⟩ := fin _ v η' hv
    exact ⟨trivial, hv, by decide, by decide⟩
theorem m_print_x2 {Y : Nat → Nat} {σ : jj_S} {th : Int32} {η : jj_H} (h : m_rep Y σ th η) (ok : s_ok σ) (p w : Nat) (r s : Int32) (hp : p < σ 12 0) (hw : w < σ 12 1) (hj : (jin r 1000 && jin s 10000) = false) : jj_Ht mX7_print [.ref (Y 0), .int (nI p), .int (nI w), .int r, .int s] η 0 0 (m_P Y η σ (nI 2) 0) := by
  have h' := h.th 0
  obtain ⟨o6, o4, -⟩ := ok.1
  have jp : jin (nI p) (σ 12 0) = true := by rw [jin_nI (by omega)]; exact decide_eq_true hp
  have jw : jin (nI w) (σ 12 1) = true := by rw [jin_nI (by omega)]; exact decide_eq_true hw
  have fin : ∀ t v η', m_P Y η σ t 0 v η' → ∃ x, v = some (.int x) ∧ m_P Y η σ t 0 (some (.int x)) η' := fun t v η' hv => ⟨0, hv.1, rfl, hv.2⟩
  refine jj_go tok_X7_print zok_X7 py_7 rfl 160 fun J => ?_
  refine ⟨_, h.o, _, h'.o, 0, 0, _, c_isIn0 _ (nI p) _ (σ 12 0) (m_1 (by omega)), Nat.zero_le _, Nat.zero_le _, fun v η' hv => ?_⟩
  obtain ⟨rfl, rfl⟩ := hv
  refine ⟨fun c1 => absurd (b01_eq0 c1) (by rw [jp]; decide), fun c1 => ⟨_, h'.o, 0, 0, _, c_isIn0 _ (nI w) _ (σ 12 1) (m_1 (by omega)), Nat.zero_le _, Nat.zero_le _, fun v η' hv => ?_⟩⟩
  obtain ⟨rfl, rfl⟩ := hv
  refine ⟨fun c1 => ⟨0, 0, _, c_isIn0 _ r (nI 999) 1000 rfl, Nat.zero_le _, Nat.zero_le _, fun v η' hv => ?_⟩, fun c1 => absurd (b01_eq0 (Classical.not_not.mp c1)) (by rw [jw]; decide)⟩
  obtain ⟨rfl, rfl⟩ := hv
  refine ⟨fun c1 => ⟨_, h'.o, 0, 0, _, m_fin h (nI 2), Nat.zero_le _, Nat.zero_le _, fun v η' hv => ?_⟩, fun c1 => ⟨0, 0, _, c_isIn0 _ s (nI 9999) 10000 rfl, Nat.zero_le _, Nat.zero_le _, fun v η' hv => ?_⟩⟩
  · obtain ⟨x, rfl, hv⟩ := fin _ v η' hv
    exact ⟨trivial, hv, by decide, by decide⟩
  obtain ⟨rfl, rfl⟩ := hv
  refine ⟨fun c2 => ?_, fun c2 => ⟨_, h'.o, 0, 0, _, m_fin h (nI 2), Nat.zero_le _, Nat.zero_le _, fun v η' hv => ?_⟩⟩
  · rw [b01_ne0 c1, b01_ne0 c2] at hj
    cases hj
  · obtain ⟨x, rfl, hv⟩ := fin _ v η' hv
    exact ⟨trivial, hv, by decide, by decide⟩
theorem m_print_x3 {Y : Nat → Nat} {σ : jj_S} {th : Int32} {η : jj_H} (h : m_rep Y σ th η) (ok : s_ok σ) (p w r s : Nat) (hp : p < σ 12 0) (hw : w < σ 12 1) (hr : r < 1000) (hs : s < 10000) (hn : σ 12 2 = 10) : jj_Ht mX7_print [.ref (Y 0), .int (nI p), .int (nI w), .int (nI r), .int (nI s)] η 0 0 (m_P Y η σ (nI 3) 0) := by
  have h' := h.th 0
  obtain ⟨o6, o4, -⟩ := ok.1
  have jp : jin (nI p) (σ 12 0) = true := by rw [jin_nI (by omega)]; exact decide_eq_true hp
  have jw : jin (nI w) (σ 12 1) = true := by rw [jin_nI (by omega)]; exact decide_eq_true hw
  have jr : jin (nI r) 1000 = true := by rw [jin_nI (by omega)]; exact decide_eq_true hr
  have js : jin (nI s) 10000 = true := by rw [jin_nI (by omega)]; exact decide_eq_true hs
  have fin : ∀ t v η', m_P Y η σ t 0 v η' → ∃ x, v = some (.int x) ∧ m_P Y η σ t 0 (some (.int x)) η' := fun t v η' hv => ⟨0, hv.1, rfl, hv.2⟩
  refine jj_go tok_X7_print zok_X7 py_7 rfl 160 fun J => ?_
  refine ⟨_, h.o, _, h'.o, 0, 0, _, c_isIn0 _ (nI p) _ (σ 12 0) (m_1 (by omega)), Nat.zero_le _, Nat.zero_le _, fun v η' hv => ?_⟩
  obtain ⟨rfl, rfl⟩ := hv
  refine ⟨fun c1 => absurd (b01_eq0 c1) (by rw [jp]; decide), fun c1 => ⟨_, h'.o, 0, 0, _, c_isIn0 _ (nI w) _ (σ 12 1) (m_1 (by omega)), Nat.zero_le _, Nat.zero_le _, fun v η' hv => ?_⟩⟩
  obtain ⟨rfl, rfl⟩ := hv
  refine ⟨fun c1 => ⟨0, 0, _, c_isIn0 _ (nI r) (nI 999) 1000 rfl, Nat.zero_le _, Nat.zero_le _, fun v η' hv => ?_⟩, fun c1 => absurd (b01_eq0 (Classical.not_not.mp c1)) (by rw [jw]; decide)⟩
  obtain ⟨rfl, rfl⟩ := hv
  refine ⟨fun c1 => absurd (b01_eq0 c1) (by rw [jr]; decide), fun c1 => ⟨0, 0, _, c_isIn0 _ (nI s) (nI 9999) 10000 rfl, Nat.zero_le _, Nat.zero_le _, fun v η' hv => ?_⟩⟩
  obtain ⟨rfl, rfl⟩ := hv
  refine ⟨fun c1 => ⟨_, h'.o, fun c2 => ?_, fun c2 => ⟨_, h'.o, 0, 0, _, m_fin h (nI 3), Nat.zero_le _, Nat.zero_le _, fun v η' hv => ?_⟩⟩, fun c1 => absurd (b01_eq0 (Classical.not_not.mp c1)) (by rw [js]; decide)⟩
  · rw [hn] at c2
    exact absurd rfl c2
  · obtain ⟨x, rfl, hv⟩ := fin _ v η' hv
    exact ⟨trivial, hv, by decide, by decide⟩
theorem m_rep.set {Y : Nat → Nat} {σ : jj_S} {th : Int32} {η : jj_H} (h : m_rep Y σ th η) {F : Nat → Int32} (s r c a d : Nat) (hF : F 0 = nI r ∧ F 1 = nI c ∧ F 2 = nI a ∧ F 3 = nI d) : m_rep Y (s_set σ s r c a d) th (jj_up η (Y 7) (x_i 80 (va_cpy F (fun j => nI (σ 6 j)) 0 (8 * s + 4) 4))) := by
  obtain ⟨D, z, h0, h1, h2, h3, h4, h5, h6, h7, h8, h9, h10, h11, h12⟩ := h
  have n : ∀ i, i < 13 → i ≠ 7 → ∀ e0, jj_up η (Y 7) e0 (Y i) = η (Y i) := fun i hi n4 e0 => by
    rw [up_n (D i 7 hi (by decide) n4)]
  refine ⟨D, z, (n 0 (by decide) (by decide) _).trans h0, (n 1 (by decide) (by decide) _).trans h1, (n 2 (by decide) (by decide) _).trans h2, (n 3 (by decide) (by decide) _).trans h3, (n 4 (by decide) (by decide) _).trans h4, (n 5 (by decide) (by decide) _).trans h5, (n 6 (by decide) (by decide) _).trans h6, up_s.trans ?_, (n 8 (by decide) (by decide) _).trans h8, (n 9 (by decide) (by decide) _).trans h9, (n 10 (by decide) (by decide) _).trans h10, (n 11 (by decide) (by decide) _).trans h11, (n 12 (by decide) (by decide) _).trans h12⟩
  rw [cpy_fn (G := fun j => nI (s_set σ s r c a d 6 j)) (fun e he => ?_) (fun j hj => congrArg nI (s_set_n σ s r c a d (by omega)))]
  rcases (show e = 0 ∨ e = 1 ∨ e = 2 ∨ e = 3 by omega) with rfl | rfl | rfl | rfl
  · exact hF.1.trans (congrArg nI (s_set_4 σ s r c a d).symm)
  · exact hF.2.1.trans (congrArg nI (s_set_5 σ s r c a d).symm)
  · exact hF.2.2.1.trans (congrArg nI (s_set_6 σ s r c a d).symm)
  · exact hF.2.2.2.trans (congrArg nI (s_set_7 σ s r c a d).symm)
theorem c_isInG (η : jj_H) (v : Int32) : jj_Ht mX7_isIn [.int v, .int (nI 5), .int (nI 16)] η 0 0 (fun w η' => w = some (.int (b01 (jga v))) ∧ η' = η) := c_isIn η v (nI 5) (nI 16)
