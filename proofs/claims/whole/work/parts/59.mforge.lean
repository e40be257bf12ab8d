theorem m_rep.frg {Y : Nat → Nat} {σ : jj_S} {th : Int32} {η : jj_H} (h : m_rep Y σ th η) (i v : Nat) : m_rep Y (s_up σ 10 i v) th (jj_up η (Y 11) (x_i 160 (upd (fun j => nI (σ 10 j)) i (nI v)))) := by
  obtain ⟨d, z, h0, h1, h2, h3, h4, h5, h6, h7, h8, h9, h10, h11, h12⟩ := h
  have n : ∀ i, i < 13 → i ≠ 11 → Y i ≠ Y 11 := fun i hi hn => d i 11 hi (by decide) hn
  refine ⟨d, z, (up_n (n 0 (by decide) (by decide))).trans h0, (up_n (n 1 (by decide) (by decide))).trans h1, (up_n (n 2 (by decide) (by decide))).trans h2, (up_n (n 3 (by decide) (by decide))).trans h3, (up_n (n 4 (by decide) (by decide))).trans h4, (up_n (n 5 (by decide) (by decide))).trans h5, (up_n (n 6 (by decide) (by decide))).trans h6, (up_n (n 7 (by decide) (by decide))).trans h7, (up_n (n 8 (by decide) (by decide))).trans h8, (up_n (n 9 (by decide) (by decide))).trans h9, (up_n (n 10 (by decide) (by decide))).trans h10, up_s.trans ?_, (up_n (n 12 (by decide) (by decide))).trans h12⟩
  rw [show upd (fun j => nI (σ 10 j)) i (nI v) = fun j => nI (s_up σ 10 i v 10 j) from funext fun j => by
    by_cases z : j = i
    · rw [z, pk_us, s_up_s]
    · rw [pk_un z, s_up_n _ _ _ z]]
theorem m_forge_ok {Y : Nat → Nat} {σ : jj_S} {th : Int32} {η : jj_H} (h : m_rep Y σ th η) (ok : s_ok σ) (k d t : Nat) (hk : k < σ 12 3) (hd : d < 4) (ht : t ≤ s_all σ k d) (hm : σ 11 k = 0) : jj_Ht mX7_forge [.ref (Y 0), .int (nI k), .int (nI d), .int (nI t)] η 0 0 (m_P Y η (s_up σ 10 (4 * k + d) t) 0 (nI (σ 10 (4 * k + d)))) := by
  have hn40 := ok.1.2.2.2
  have h' := h.th 0
  obtain ⟨-, -, h0, h1, h2, h3, h4, h5, h6, h7, h8, h9, h10, h11, h12⟩ := id h'
  have sa := sal_pos σ (ok.m hk) d
  have em : mI (σ 11 k) = -1 := by rw [hm]; rfl
  refine jj_go tok_X7_forge zok_X7 py_7 rfl 90 fun J => ?_
  refine ⟨_, h.o, _, h0, 0, 0, _, c_isStamp h' (nI k) hn40, Nat.zero_le _, Nat.zero_le _, fun v η' hv => ?_⟩
  obtain ⟨rfl, rfl⟩ := hv
  refine ⟨fun c1 => ?_, fun c1 => ⟨0, 0, _, c_isIn0 _ (nI d) (nI 3) 4 rfl, Nat.zero_le _, Nat.zero_le _, fun v η' hv => ?_⟩⟩
  · have c1 := b01_eq0 c1
    rw [jin_nI (by omega), decide_eq_false_iff_not] at c1
    exact absurd hk c1
  obtain ⟨rfl, rfl⟩ := hv
  refine ⟨fun c1 => ?_, fun c1 => ?_⟩
  · refine ⟨_, h0, 0, 0, _, c_all h' k d (ok.m hk) hd, Nat.zero_le _, Nat.zero_le _, fun v η' hv => ?_⟩
    obtain ⟨rfl, rfl⟩ := hv
    refine ⟨0, 0, _, c_isIn0 _ (nI t) _ (s_all σ k d + 1) (by rw [iN (by omega)]; omega), Nat.zero_le _, Nat.zero_le _, fun v η' hv => ?_⟩
    obtain ⟨rfl, rfl⟩ := hv
    refine ⟨fun c2 => ?_, fun c2 => ?_⟩
    · refine ⟨_, h0, _, _, k, h12, rfl, by omega, fun c3 => ?_, fun c3 => absurd em c3⟩
      refine ⟨_, h0, _, _, 4 * k + d, h11, ix4 _ _, by omega, ?_⟩
      refine ⟨_, h0, _, _, 4 * k + d, h11, ix4 _ _, by omega, trivial, ⟨rfl, h'.frg (4 * k + d) t, (m_fr.rf.y 0 (by decide)).y 11 (by decide)⟩, Nat.zero_le _, Nat.zero_le _⟩
    · have c2 := b01_eq0 (Classical.not_not.mp c2)
      rw [jin_nI (by omega), decide_eq_false_iff_not] at c2
      omega
  · have c1 := b01_eq0 (Classical.not_not.mp c1)
    rw [jin_nI (by omega), decide_eq_false_iff_not] at c1
    exact absurd hd c1
theorem m_forge_x1 {Y : Nat → Nat} {σ : jj_S} {th : Int32} {η : jj_H} (h : m_rep Y σ th η) (ok : s_ok σ) (k d t : Int32) (hj : (jin k (σ 12 3) && jin d 4) = false) : jj_Ht mX7_forge [.ref (Y 0), .int k, .int d, .int t] η 0 0 (m_P Y η σ (nI 1) 0) := by
  have hn := ok.1.2.2.2
  have h' := h.th 0
  refine jj_go tok_X7_forge zok_X7 py_7 rfl 90 fun J => ?_
  refine ⟨_, h.o, _, h'.o, 0, 0, _, c_isStamp h' k hn, Nat.zero_le _, Nat.zero_le _, fun v η' hv => ?_⟩
  obtain ⟨rfl, rfl⟩ := hv
  refine ⟨fun c1 => ⟨_, h'.o, 0, 0, _, m_fin h (nI 1), Nat.zero_le _, Nat.zero_le _, fun v η' hv => ?_⟩, fun c1 => ⟨0, 0, _, c_isIn0 _ d (nI 3) 4 rfl, Nat.zero_le _, Nat.zero_le _, fun v η' hv => ?_⟩⟩
  · have hv2 := hv
    obtain ⟨rfl, -⟩ := hv
    exact ⟨trivial, hv2, by decide, by decide⟩
  obtain ⟨rfl, rfl⟩ := hv
  refine ⟨fun c2 => ?_, fun c2 => ⟨_, h'.o, 0, 0, _, m_fin h (nI 1), Nat.zero_le _, Nat.zero_le _, fun v η' hv => ?_⟩⟩
  · rw [b01_ne0 c1, b01_ne0 c2] at hj
    cases hj
  · have hv2 := hv
    obtain ⟨rfl, -⟩ := hv
    exact ⟨trivial, hv2, by decide, by decide⟩
theorem m_forge_x2 {Y : Nat → Nat} {σ : jj_S} {th : Int32} {η : jj_H} (h : m_rep Y σ th η) (ok : s_ok σ) (k d : Nat) (t : Int32) (hk : k < σ 12 3) (hd : d < 4) (ht : jin t (s_all σ k d + 1) = false) : jj_Ht mX7_forge [.ref (Y 0), .int (nI k), .int (nI d), .int t] η 0 0 (m_P Y η σ (nI 2) 0) := by
  have hn40 := ok.1.2.2.2
  have h' := h.th 0
  have sa := sal_pos σ (ok.m hk) d
  refine jj_go tok_X7_forge zok_X7 py_7 rfl 90 fun J => ?_
  refine ⟨_, h.o, _, h'.o, 0, 0, _, c_isStamp h' (nI k) hn40, Nat.zero_le _, Nat.zero_le _, fun v η' hv => ?_⟩
  obtain ⟨rfl, rfl⟩ := hv
  refine ⟨fun c1 => ?_, fun c1 => ⟨0, 0, _, c_isIn0 _ (nI d) (nI 3) 4 rfl, Nat.zero_le _, Nat.zero_le _, fun v η' hv => ?_⟩⟩
  · have c1 := b01_eq0 c1
    rw [jin_nI (by omega), decide_eq_false_iff_not] at c1
    exact absurd hk c1
  obtain ⟨rfl, rfl⟩ := hv
  refine ⟨fun c1 => ?_, fun c1 => ?_⟩
  · refine ⟨_, h'.o, 0, 0, _, c_all h' k d (ok.m hk) hd, Nat.zero_le _, Nat.zero_le _, fun v η' hv => ?_⟩
    obtain ⟨rfl, rfl⟩ := hv
    refine ⟨0, 0, _, c_isIn0 _ t _ (s_all σ k d + 1) (by rw [iN (by omega)]; omega), Nat.zero_le _, Nat.zero_le _, fun v η' hv => ?_⟩
    obtain ⟨rfl, rfl⟩ := hv
    refine ⟨fun c2 => absurd (b01_ne0 c2) (by rw [ht]; decide), fun c2 => ⟨_, h'.o, 0, 0, _, m_fin h (nI 2), Nat.zero_le _, Nat.zero_le _, fun v η' hv => ?_⟩⟩
    have hv2 := hv
    obtain ⟨rfl, -⟩ := hv
    exact ⟨trivial, hv2, by decide, by decide⟩
  · have c1 := b01_eq0 (Classical.not_not.mp c1)
    rw [jin_nI (by omega), decide_eq_false_iff_not] at c1
    exact absurd hd c1
theorem m_forge_x3 {Y : Nat → Nat} {σ : jj_S} {th : Int32} {η : jj_H} (h : m_rep Y σ th η) (ok : s_ok σ) (k d t : Nat) (hk : k < σ 12 3) (hd : d < 4) (ht : t ≤ s_all σ k d) (hm : σ 11 k ≠ 0) : jj_Ht mX7_forge [.ref (Y 0), .int (nI k), .int (nI d), .int (nI t)] η 0 0 (m_P Y η σ (nI 3) 0) := by
  have hn40 := ok.1.2.2.2
  have h' := h.th 0
  obtain ⟨-, -, h0, h1, h2, h3, h4, h5, h6, h7, h8, h9, h10, h11, h12⟩ := id h'
  have sa := sal_pos σ (ok.m hk) d
  have h64 := (ok.2.2.2.2.1 k hk).2.2.2.1
  refine jj_go tok_X7_forge zok_X7 py_7 rfl 90 fun J => ?_
  refine ⟨_, h.o, _, h0, 0, 0, _, c_isStamp h' (nI k) hn40, Nat.zero_le _, Nat.zero_le _, fun v η' hv => ?_⟩
  obtain ⟨rfl, rfl⟩ := hv
  refine ⟨fun c1 => ?_, fun c1 => ⟨0, 0, _, c_isIn0 _ (nI d) (nI 3) 4 rfl, Nat.zero_le _, Nat.zero_le _, fun v η' hv => ?_⟩⟩
  · have c1 := b01_eq0 c1
    rw [jin_nI (by omega), decide_eq_false_iff_not] at c1
    exact absurd hk c1
  obtain ⟨rfl, rfl⟩ := hv
  refine ⟨fun c1 => ?_, fun c1 => ?_⟩
  · refine ⟨_, h0, 0, 0, _, c_all h' k d (ok.m hk) hd, Nat.zero_le _, Nat.zero_le _, fun v η' hv => ?_⟩
    obtain ⟨rfl, rfl⟩ := hv
    refine ⟨0, 0, _, c_isIn0 _ (nI t) _ (s_all σ k d + 1) (by rw [iN (by omega)]; omega), Nat.zero_le _, Nat.zero_le _, fun v η' hv => ?_⟩
    obtain ⟨rfl, rfl⟩ := hv
    refine ⟨fun c2 => ?_, fun c2 => ?_⟩
    · refine ⟨_, h0, _, _, k, h12, rfl, by omega, fun c3 => absurd ((mI_m1 h64).mp c3) hm, fun c3 => ⟨_, h0, 0, 0, _, m_fin h (nI 3), Nat.zero_le _, Nat.zero_le _, fun v η' hv => ?_⟩⟩
      have hv2 := hv
      obtain ⟨rfl, -⟩ := hv
      exact ⟨trivial, hv2, by decide, by decide⟩
    · have c2 := b01_eq0 (Classical.not_not.mp c2)
      rw [jin_nI (by omega), decide_eq_false_iff_not] at c2
      omega
  · have c1 := b01_eq0 (Classical.not_not.mp c1)
    rw [jin_nI (by omega), decide_eq_false_iff_not] at c1
    exact absurd hd c1
theorem m_advise_ok {Y : Nat → Nat} {σ : jj_S} {th : Int32} {η : jj_H} (h : m_rep Y σ th η) (ok : s_ok σ) (k : Nat) (hk : k < σ 12 3) (hm : σ 11 k = 0) : jj_Ht mX7_advise [.ref (Y 0), .int (nI k)] η 0 0 (m_P Y η σ 0 (mI (s_bst σ k 64).2)) := by
  have hn40 := ok.1.2.2.2
  have h' := h.th 0
  obtain ⟨-, -, h0, h1, h2, h3, h4, h5, h6, h7, h8, h9, h10, h11, h12⟩ := id h'
  have em : mI (σ 11 k) = -1 := by rw [hm]; rfl
  have e64 : (nI 64).toInt = 64 := rfl
  refine jj_lp tok_X7_advise zok_X7 py_7 rfl fun J run => ?_
  have loop : ∀ m j, j + m = 64 → J (jj_up η (Y 0) (m_o Y σ 0)) 0 0 42 [(0, .ref (Y 0)), (1, .int (nI k)), (2, .int (mI (s_bst σ k j).2)), (3, .int (nI (s_bst σ k j).1)), (4, .int (nI j))] [] := by
    intro m
    induction m with
    | zero =>
      intro j hj
      refine run [] 20 ?_
      refine ⟨fun c1 => ?_, fun c1 => ?_⟩
      · rw [show j = 64 by omega]
        exact ⟨trivial, m_yes h n_fr.rf, Nat.zero_le _, Nat.zero_le _⟩
      · rw [cb_ge, e64, iN (by omega)] at c1
        omega
    | succ m ih =>
      intro j hj
      have ih := ih (j + 1) (by omega)
      rw [← nI_add j 1] at ih
      have bl := (s_bst_le (σ := σ) (k := k) j).1
      refine run [(42, 5)] 60 ?_
      refine ⟨fun c1 => ?_, fun c1 => ⟨_, h0, 0, 0, _, c_mat h' ok j (by omega), Nat.zero_le _, Nat.zero_le _, fun v η' hv => ?_⟩⟩
      · rw [cb_ge, e64, iN (by omega)] at c1
        omega
      obtain ⟨rfl, rfl⟩ := hv
      refine ⟨fun c2 => ?_, fun c2 => ?_⟩
      · rw [cb_ne, im1, oI_m1 (fun i hi => by have := s_at_lt hi; omega)] at c2
        have e : s_bst σ k (j + 1) = s_bst σ k j := by
          cases hs : s_at σ j with
          | none => exact absurd hs c2
          | some i =>
            conv => lhs; unfold s_bst
            rw [hs]
        rw [e] at ih
        refine ⟨fun c3 => ?_, fun c3 => ih⟩
        rw [cb_gt, im1, iN (by omega)] at c3
        omega
      · rw [cb_ne, im1, oI_m1 (fun i hi => by have := s_at_lt hi; omega), Classical.not_not] at c2
        refine ⟨_, h0, 0, 0, _, c_besides h' ok k j hk (by omega), Nat.zero_le _, Nat.zero_le _, fun v η' hv => ?_⟩
        obtain ⟨rfl, rfl⟩ := hv
        cases hb : s_bs σ k (j / 8) (j % 8) 4 with
        | none =>
          have ot : (oI none).toInt = -1 := rfl
          have e : s_bst σ k (j + 1) = s_bst σ k j := by
            conv => lhs; unfold s_bst
            rw [c2, hb]
          rw [e] at ih
          refine ⟨fun c3 => ?_, fun c3 => ih⟩
          rw [cb_gt, ot, iN (by omega)] at c3
          omega
        | some b =>
          have hb4 := s_bs_le hb
          have ot : (oI (some b)).toInt = b := iN (by omega)
          have e : s_bst σ k (j + 1) = if (s_bst σ k j).1 < b then (b, j + 1) else s_bst σ k j := by
            conv => lhs; unfold s_bst
            rw [c2, hb]
          refine ⟨fun c3 => ?_, fun c3 => ?_⟩
          · rw [cb_gt, ot, iN (by omega)] at c3
            rw [e, if_pos (by omega), mI_s] at ih
            exact ih
          · rw [cb_gt, ot, iN (by omega)] at c3
            rw [e, if_neg (by omega)] at ih
            exact ih
  refine run [(42, 5)] 60 ?_
  refine ⟨_, h.o, _, h0, 0, 0, _, c_isStamp h' (nI k) hn40, Nat.zero_le _, Nat.zero_le _, fun v η' hv => ?_⟩
  obtain ⟨rfl, rfl⟩ := hv
  refine ⟨fun c1 => ⟨_, h0, _, _, k, h12, rfl, by omega, fun c2 => loop 64 0 rfl, fun c2 => absurd em c2⟩, fun c1 => ?_⟩
  have c1 := b01_eq0 (Classical.not_not.mp c1)
  rw [jin_nI (by omega), decide_eq_false_iff_not] at c1
  exact absurd hk c1
theorem m_advise_x1 {Y : Nat → Nat} {σ : jj_S} {th : Int32} {η : jj_H} (h : m_rep Y σ th η) (ok : s_ok σ) (k : Int32) (hk : jin k (σ 12 3) = false) : jj_Ht mX7_advise [.ref (Y 0), .int k] η 0 0 (m_P Y η σ (nI 1) 0) := by
  have hn := ok.1.2.2.2
  have h' := h.th 0
  refine jj_go tok_X7_advise zok_X7 py_7 rfl 60 fun J => ?_
  refine ⟨_, h.o, _, h'.o, 0, 0, _, c_isStamp h' k hn, Nat.zero_le _, Nat.zero_le _, fun v η' hv => ?_⟩
  obtain ⟨rfl, rfl⟩ := hv
  refine ⟨fun c1 => absurd (b01_ne0 c1) (by rw [hk]; decide), fun c1 => ⟨_, h'.o, 0, 0, _, m_fin h (nI 1), Nat.zero_le _, Nat.zero_le _, fun v η' hv => ?_⟩⟩
  have hv2 := hv
  obtain ⟨rfl, -⟩ := hv
  exact ⟨trivial, hv2, by decide, by decide⟩
theorem m_advise_x2 {Y : Nat → Nat} {σ : jj_S} {th : Int32} {η : jj_H} (h : m_rep Y σ th η) (ok : s_ok σ) (k : Nat) (hk : k < σ 12 3) (hm : ¬ σ 11 k = 0) : jj_Ht mX7_advise [.ref (Y 0), .int (nI k)] η 0 0 (m_P Y η σ (nI 2) 0) := by
  have hn := ok.1.2.2.2
  have h' := h.th 0
  obtain ⟨-, -, h0, h1, h2, h3, h4, h5, h6, h7, h8, h9, h10, h11, h12⟩ := id h'
  have h64 := (ok.2.2.2.2.1 k hk).2.2.2.1
  refine jj_go tok_X7_advise zok_X7 py_7 rfl 60 fun J => ?_
  refine ⟨_, h.o, _, h0, 0, 0, _, c_isStamp h' (nI k) hn, Nat.zero_le _, Nat.zero_le _, fun v η' hv => ?_⟩
  obtain ⟨rfl, rfl⟩ := hv
  refine ⟨fun c1 => ?_, fun c1 => ?_⟩
  · refine ⟨_, h0, _, _, k, h12, rfl, by omega, fun c2 => absurd ((mI_m1 h64).mp c2) hm, fun c2 => ⟨_, h0, 0, 0, _, m_fin h (nI 2), Nat.zero_le _, Nat.zero_le _, fun v η' hv => ?_⟩⟩
    have hv2 := hv
    obtain ⟨rfl, -⟩ := hv
    exact ⟨trivial, hv2, by decide, by decide⟩
  · have c1 := b01_eq0 (Classical.not_not.mp c1)
    rw [jin_nI (by omega), decide_eq_false_iff_not] at c1
    exact absurd hk c1
