theorem cpy_fn {F g G : Nat → Int32} {D L : Nat} (hF : ∀ e, e < L → F e = G (D + e)) (hG : ∀ j, j < D ∨ D + L ≤ j → G j = g j) : va_cpy F g 0 D L = G := by
  funext j
  show (if D ≤ j ∧ j < D + L then F (0 + (j - D)) else g j) = G j
  split
  next z =>
    rw [hF _ (by omega)]
    congr 1
    omega
  next z => exact (hG j (by omega)).symm
theorem nx_up {η W : jj_H} {q : Nat} {e : va_E} (h : n_fr η W) (hq : η q = none) : n_fr η (jj_up W q e) := h.up hq
theorem m_rep.flw {Y : Nat → Nat} {σ : jj_S} {th : Int32} {η : jj_H} (h : m_rep Y σ th η) {F : Nat → Int32} (p r c k a b : Nat) (hp : p < σ 12 0) (hF : ∀ e, e < 5 → F e = nI (s_flv r c k a b e)) : m_rep Y (s_flw σ p r c k a b) th (jj_up (jj_up η (Y 4) (x_i 300 (va_cpy F (fun j => nI (σ 3 j)) 0 (5 * (10 * p + σ 2 p)) 5))) (Y 3) (x_i 6 (upd (fun j => nI (σ 2 j)) p (nI (σ 2 p) + nI 1)))) := by
  obtain ⟨d, z, h0, h1, h2, h3, h4, h5, h6, h7, h8, h9, h10, h11, h12⟩ := h
  have n : ∀ i, i < 13 → i ≠ 3 → i ≠ 4 → ∀ e0 e1, jj_up (jj_up η (Y 4) e0) (Y 3) e1 (Y i) = η (Y i) := fun i hi n3 n4 e0 e1 => by
    rw [up_n (d i 3 hi (by decide) n3), up_n (d i 4 hi (by decide) n4)]
  refine ⟨d, fun p' hp' => ?_, (n 0 (by decide) (by decide) (by decide) _ _).trans h0, (n 1 (by decide) (by decide) (by decide) _ _).trans h1, (n 2 (by decide) (by decide) (by decide) _ _).trans h2, up_s.trans ?_, (up_n (d 4 3 (by decide) (by decide) (by decide))).trans (up_s.trans ?_), (n 5 (by decide) (by decide) (by decide) _ _).trans h5, (n 6 (by decide) (by decide) (by decide) _ _).trans h6, (n 7 (by decide) (by decide) (by decide) _ _).trans h7, (n 8 (by decide) (by decide) (by decide) _ _).trans h8, (n 9 (by decide) (by decide) (by decide) _ _).trans h9, (n 10 (by decide) (by decide) (by decide) _ _).trans h10, (n 11 (by decide) (by decide) (by decide) _ _).trans h11, (n 12 (by decide) (by decide) (by decide) _ _).trans h12⟩
  · have hp' : σ 12 0 ≤ p' := hp'
    rw [s_flw2 σ p r c k a b (by omega)]
    exact z p' hp'
  · rw [upd_fn (g := fun j => nI (s_flw σ p r c k a b 2 j)) (by rw [s_flw2s, nI_add]) (fun j hj => congrArg nI (s_flw2 σ p r c k a b hj))]
  · rw [cpy_fn (G := fun j => nI (s_flw σ p r c k a b 3 j)) (fun e he => by rw [hF e he, s_flw3s σ p r c k a b he]) (fun j hj => congrArg nI (s_flw3 σ p r c k a b hj))]
theorem m_addFlaw_ok {Y : Nat → Nat} {σ : jj_S} {th : Int32} {η : jj_H} (h : m_rep Y σ th η) (ok : s_ok σ) (p r c k a b : Nat) (hp : p < σ 12 0) (hr : r < σ 0 p) (hc : c < σ 1 p) (hk : k ≤ 4) (hab : a < b) (hb : b < 2147483648) (hn : σ 2 p < 10) : jj_Ht mX7_addFlaw [.ref (Y 0), .int (nI p), .int (nI r), .int (nI c), .int (nI k), .int (nI a), .int (nI b)] η 1 5 (m_P Y η (s_flw σ p r c k a b) 0 (nI (σ 2 p + 1))) := by
  have h' := h.th 0
  obtain ⟨d, -, h0, h1, h2, h3, h4, h5, h6, h7, h8, h9, h10, h11, h12⟩ := id h'
  have o6 := ok.1.1
  have hok := (ok.2.1 p hp).1
  have e10 : (nI 10).toInt = 10 := rfl
  have n34 : Y 3 ≠ Y 4 := d 3 4 (by decide) (by decide) (by decide)
  have n04 : Y 0 ≠ Y 4 := d 0 4 (by decide) (by decide) (by decide)
  have n03 : Y 0 ≠ Y 3 := d 0 3 (by decide) (by decide) (by decide)
  refine jj_go tok_X7_addFlaw zok_X7 py_7 rfl 160 fun J => ?_
  refine ⟨_, h.o, _, h0, 0, 0, _, c_isIn0 _ (nI p) _ (σ 12 0) (m_1 (by omega)), Nat.zero_le _, Nat.zero_le _, fun v η' hv => ?_⟩
  obtain ⟨rfl, rfl⟩ := hv
  have jp : jin (nI p) (σ 12 0) = true := by rw [jin_nI (by omega)]; exact decide_eq_true hp
  have jrc : (jin (nI r) (σ 0 p) && jin (nI c) (σ 1 p)) = true := by rw [jin_nI (by omega), jin_nI (by omega), decide_eq_true hr, decide_eq_true hc]; rfl
  refine ⟨fun c1 => absurd (b01_eq0 c1) (by rw [jp]; decide), fun c1 => ⟨_, h0, 0, 0, _, c_isPlace h' p (nI r) (nI c) (by omega) (by omega) (by omega), Nat.zero_le _, Nat.zero_le _, fun v η' hv => ?_⟩⟩
  obtain ⟨rfl, rfl⟩ := hv
  refine ⟨fun c1 => ⟨0, 0, _, c_isIn0 _ (nI k) (nI 4) 5 rfl, Nat.zero_le _, Nat.zero_le _, fun v η' hv => ?_⟩, fun c1 => absurd (b01_eq0 (Classical.not_not.mp c1)) (by rw [jrc]; decide)⟩
  obtain ⟨rfl, rfl⟩ := hv
  refine ⟨fun c1 => ?_, fun c1 => ⟨fun c2 => ?_, fun c2 => ⟨fun c3 => ⟨_, h0, _, _, p, h3, rfl, by omega, fun c4 => ?_, fun c4 => ?_⟩, fun c3 => ?_⟩⟩⟩
  · have c1 := b01_eq0 c1
    rw [jin_nI (by omega), decide_eq_false_iff_not] at c1
    omega
  · rw [cb_lt, i0, iN (by omega)] at c2
    omega
  · refine ⟨5, rfl, by decide, by decide, by decide, fun q hq => ?_⟩
    refine ⟨_, _, 0, up_s, nI_0.symm, by decide, _, _, 1, up_s, rfl, by decide, _, _, 2, up_s, rfl, by decide, _, _, 3, up_s, rfl, by decide, _, _, 4, up_s, rfl, by decide, ?_⟩
    have nf : ∀ f0 f1 f2 f3 f4 f5, n_fr (jj_up η (Y 0) (m_o Y σ 0)) (jj_up (jj_up (jj_up (jj_up (jj_up (jj_up (jj_up η (Y 0) (m_o Y σ 0)) q f0) q f1) q f2) q f3) q f4) q f5) := fun f0 f1 f2 f3 f4 f5 => (((((n_fr.up1 hq).up hq).up hq).up hq).up hq).up hq
    refine ⟨_, (nf _ _ _ _ _ _).at h0, _, (nf _ _ _ _ _ _).at h0, _, _, p, (nf _ _ _ _ _ _).at h3, rfl, by omega, ?_⟩
    refine ⟨5, _, 300, _, 0, 5 * (10 * p + σ 2 p), 5, up_s, (nf _ _ _ _ _ _).at h4, nI_0.symm, ix5 _ _, rfl, by omega, by omega, ?_⟩
    refine ⟨_, (up_n n04).trans ((nf _ _ _ _ _ _).at h0), _, _, p, (up_n n34).trans ((nf _ _ _ _ _ _).at h3), rfl, by omega, _, _, p, (up_n n34).trans ((nf _ _ _ _ _ _).at h3), rfl, by omega, ?_⟩
    refine ⟨_, (up_n n03).trans ((up_n n04).trans ((nf _ _ _ _ _ _).at h0)), _, _, p, up_s, rfl, by omega, trivial, ⟨?_, (h'.fr (nf _ _ _ _ _ _)).flw p r c k a b hp ?_, (((m_fr.rf.y 0 (by decide)).tr (nf _ _ _ _ _ _).m).y 4 (by decide)).y 3 (by decide)⟩, by decide, by decide⟩
    · rw [pk_us, nI_add]
    · intro e he
      rcases (show e = 0 ∨ e = 1 ∨ e = 2 ∨ e = 3 ∨ e = 4 by omega) with rfl | rfl | rfl | rfl | rfl <;> rfl
  · rw [cb_ne, e10, iN (by omega)] at c4
    omega
  · rw [cb_gt, iN (by omega), iN (by omega)] at c3
    omega
theorem m_addFlaw_x1 {Y : Nat → Nat} {σ : jj_S} {th : Int32} {η : jj_H} (h : m_rep Y σ th η) (ok : s_ok σ) (p r c k a b : Int32) (hj : ∀ p', p = nI p' → p' < σ 12 0 → (jin r (σ 0 p') && jin c (σ 1 p')) = false) : jj_Ht mX7_addFlaw [.ref (Y 0), .int p, .int r, .int c, .int k, .int a, .int b] η 0 0 (m_P Y η σ (nI 1) 0) := by
  have h' := h.th 0
  have o6 := ok.1.1
  refine jj_go tok_X7_addFlaw zok_X7 py_7 rfl 160 fun J => ?_
  refine ⟨_, h.o, _, h'.o, 0, 0, _, c_isIn0 _ p _ (σ 12 0) (m_1 (by omega)), Nat.zero_le _, Nat.zero_le _, fun v η' hv => ?_⟩
  obtain ⟨rfl, rfl⟩ := hv
  refine ⟨fun c1 => ⟨_, h'.o, 0, 0, _, m_fin h (nI 1), Nat.zero_le _, Nat.zero_le _, fun v η' hv => ?_⟩, fun c1 => ?_⟩
  · have hv2 := hv
    obtain ⟨rfl, -⟩ := hv
    exact ⟨trivial, hv2, by decide, by decide⟩
  obtain ⟨p, rfl, hp, -⟩ := jin_of (b01_ne0 c1)
  have hok := (ok.2.1 p hp).1
  refine ⟨_, h'.o, 0, 0, _, c_isPlace h' p r c (by omega) (by omega) (by omega), Nat.zero_le _, Nat.zero_le _, fun v η' hv => ?_⟩
  obtain ⟨rfl, rfl⟩ := hv
  refine ⟨fun c2 => absurd (b01_ne0 c2) (by rw [hj p rfl hp]; decide), fun c2 => ⟨_, h'.o, 0, 0, _, m_fin h (nI 1), Nat.zero_le _, Nat.zero_le _, fun v η' hv => ?_⟩⟩
  have hv2 := hv
  obtain ⟨rfl, -⟩ := hv
  exact ⟨trivial, hv2, by decide, by decide⟩
theorem m_addFlaw_x2 {Y : Nat → Nat} {σ : jj_S} {th : Int32} {η : jj_H} (h : m_rep Y σ th η) (ok : s_ok σ) (p r c : Nat) (k a b : Int32) (hp : p < σ 12 0) (hr : r < σ 0 p) (hc : c < σ 1 p) (hx : (jin k 5 && decide (0 ≤ a.toInt) && decide (a.toInt < b.toInt)) = false) : jj_Ht mX7_addFlaw [.ref (Y 0), .int (nI p), .int (nI r), .int (nI c), .int k, .int a, .int b] η 0 0 (m_P Y η σ (nI 2) 0) := by
  have h' := h.th 0
  have o6 := ok.1.1
  have hok := (ok.2.1 p hp).1
  refine jj_go tok_X7_addFlaw zok_X7 py_7 rfl 160 fun J => ?_
  refine ⟨_, h.o, _, h'.o, 0, 0, _, c_isIn0 _ (nI p) _ (σ 12 0) (m_1 (by omega)), Nat.zero_le _, Nat.zero_le _, fun v η' hv => ?_⟩
  obtain ⟨rfl, rfl⟩ := hv
  have jp : jin (nI p) (σ 12 0) = true := by rw [jin_nI (by omega)]; exact decide_eq_true hp
  have jrc : (jin (nI r) (σ 0 p) && jin (nI c) (σ 1 p)) = true := by rw [jin_nI (by omega), jin_nI (by omega), decide_eq_true hr, decide_eq_true hc]; rfl
  refine ⟨fun c1 => absurd (b01_eq0 c1) (by rw [jp]; decide), fun c1 => ⟨_, h'.o, 0, 0, _, c_isPlace h' p (nI r) (nI c) (by omega) (by omega) (by omega), Nat.zero_le _, Nat.zero_le _, fun v η' hv => ?_⟩⟩
  obtain ⟨rfl, rfl⟩ := hv
  refine ⟨fun c1 => ⟨0, 0, _, c_isIn0 _ k (nI 4) 5 rfl, Nat.zero_le _, Nat.zero_le _, fun v η' hv => ?_⟩, fun c1 => absurd (b01_eq0 (Classical.not_not.mp c1)) (by rw [jrc]; decide)⟩
  obtain ⟨rfl, rfl⟩ := hv
  have fin : ∀ v η', m_P Y η σ (nI 2) 0 v η' → ∃ x, v = some (.int x) ∧ m_P Y η σ (nI 2) 0 (some (.int x)) η' := fun v η' hv => ⟨0, hv.1, rfl, hv.2⟩
  refine ⟨fun c1 => ⟨_, h'.o, 0, 0, _, m_fin h (nI 2), Nat.zero_le _, Nat.zero_le _, fun v η' hv => ?_⟩, fun c1 => ⟨fun c2 => ⟨_, h'.o, 0, 0, _, m_fin h (nI 2), Nat.zero_le _, Nat.zero_le _, fun v η' hv => ?_⟩, fun c2 => ⟨fun c3 => ?_, fun c3 => ⟨_, h'.o, 0, 0, _, m_fin h (nI 2), Nat.zero_le _, Nat.zero_le _, fun v η' hv => ?_⟩⟩⟩⟩
  · obtain ⟨x, rfl, hv⟩ := fin v η' hv
    exact ⟨trivial, hv, by decide, by decide⟩
  · obtain ⟨x, rfl, hv⟩ := fin v η' hv
    exact ⟨trivial, hv, by decide, by decide⟩
  · rw [cb_lt, i0] at c2
    rw [cb_gt] at c3
    rw [b01_ne0 c1] at hx
    simp at hx
    omega
  · obtain ⟨x, rfl, hv⟩ := fin v η' hv
    exact ⟨trivial, hv, by decide, by decide⟩
theorem m_addFlaw_x3 {Y : Nat → Nat} {σ : jj_S} {th : Int32} {η : jj_H} (h : m_rep Y σ th η) (ok : s_ok σ) (p r c k a b : Nat) (hp : p < σ 12 0) (hr : r < σ 0 p) (hc : c < σ 1 p) (hk : k ≤ 4) (hab : a < b) (hb : b < 2147483648) (hn : σ 2 p = 10) : jj_Ht mX7_addFlaw [.ref (Y 0), .int (nI p), .int (nI r), .int (nI c), .int (nI k), .int (nI a), .int (nI b)] η 0 0 (m_P Y η σ (nI 3) 0) := by
  have h' := h.th 0
  obtain ⟨d, -, h0, h1, h2, h3, h4, h5, h6, h7, h8, h9, h10, h11, h12⟩ := id h'
  have o6 := ok.1.1
  have hok := (ok.2.1 p hp).1
  refine jj_go tok_X7_addFlaw zok_X7 py_7 rfl 160 fun J => ?_
  refine ⟨_, h.o, _, h0, 0, 0, _, c_isIn0 _ (nI p) _ (σ 12 0) (m_1 (by omega)), Nat.zero_le _, Nat.zero_le _, fun v η' hv => ?_⟩
  obtain ⟨rfl, rfl⟩ := hv
  have jp : jin (nI p) (σ 12 0) = true := by rw [jin_nI (by omega)]; exact decide_eq_true hp
  have jrc : (jin (nI r) (σ 0 p) && jin (nI c) (σ 1 p)) = true := by rw [jin_nI (by omega), jin_nI (by omega), decide_eq_true hr, decide_eq_true hc]; rfl
  refine ⟨fun c1 => absurd (b01_eq0 c1) (by rw [jp]; decide), fun c1 => ⟨_, h0, 0, 0, _, c_isPlace h' p (nI r) (nI c) (by omega) (by omega) (by omega), Nat.zero_le _, Nat.zero_le _, fun v η' hv => ?_⟩⟩
  obtain ⟨rfl, rfl⟩ := hv
  refine ⟨fun c1 => ⟨0, 0, _, c_isIn0 _ (nI k) (nI 4) 5 rfl, Nat.zero_le _, Nat.zero_le _, fun v η' hv => ?_⟩, fun c1 => absurd (b01_eq0 (Classical.not_not.mp c1)) (by rw [jrc]; decide)⟩
  obtain ⟨rfl, rfl⟩ := hv
  refine ⟨fun c1 => ?_, fun c1 => ⟨fun c2 => ?_, fun c2 => ⟨fun c3 => ⟨_, h0, _, _, p, h3, rfl, by omega, fun c4 => ?_, fun c4 => ?_⟩, fun c3 => ?_⟩⟩⟩
  · have c1 := b01_eq0 c1
    rw [jin_nI (by omega), decide_eq_false_iff_not] at c1
    omega
  · rw [cb_lt, i0, iN (by omega)] at c2
    omega
  · exact absurd (show nI (σ 2 p) = nI 10 by rw [hn]) c4
  · refine ⟨_, h0, 0, 0, _, m_fin h (nI 3), Nat.zero_le _, Nat.zero_le _, fun v η' hv => ?_⟩
    have hv2 := hv
    obtain ⟨rfl, -⟩ := hv
    exact ⟨trivial, hv2, by decide, by decide⟩
  · rw [cb_gt, iN (by omega), iN (by omega)] at c3
    omega
