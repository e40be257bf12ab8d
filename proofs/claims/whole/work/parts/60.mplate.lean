/-! THE CHECK's FACE: what makes more -/
theorem upd_fn {f g : Nat → Int32} {i : Nat} {v : Int32} (h1 : g i = v) (h2 : ∀ j, j ≠ i → g j = f j) : upd f i v = g := by
  funext j
  by_cases z : j = i
  · rw [z, pk_us, h1]
  · rw [pk_un z, h2 j z]
theorem p1m1 (n : Nat) : nI n + nI 1 - nI 1 = nI n := by
  rw [nI_add, pk_sub (by omega), Nat.add_sub_cancel]
theorem m_rep.plt {Y : Nat → Nat} {σ : jj_S} {th : Int32} {η : jj_H} (h : m_rep Y σ th η) (w k : Nat) : m_rep Y (s_plt σ w k) 0 (jj_up (jj_up (jj_up η (Y 1) (x_i 6 (upd (fun j => nI (σ 0 j)) (σ 12 0) (nI w)))) (Y 2) (x_i 6 (upd (fun j => nI (σ 1 j)) (σ 12 0) (nI k)))) (Y 0) (x_o 7 [.int 0, .int (nI (σ 12 0) + nI 1), .ref (Y 1), .ref (Y 2), .ref (Y 3), .ref (Y 4), .int (nI (σ 12 1)), .ref (Y 5), .ref (Y 6), .int (nI (σ 12 2)), .ref (Y 7), .int (nI (σ 12 3)), .ref (Y 8), .ref (Y 9), .ref (Y 10), .ref (Y 11), .ref (Y 12)])) := by
  obtain ⟨d, z, h0, h1, h2, h3, h4, h5, h6, h7, h8, h9, h10, h11, h12⟩ := h
  have n : ∀ i, 3 ≤ i → i < 13 → ∀ e0 e1 e2, jj_up (jj_up (jj_up η (Y 1) e0) (Y 2) e1) (Y 0) e2 (Y i) = η (Y i) := fun i h3 hi e0 e1 e2 => by
    rw [up_n (d i 0 hi (by decide) (by omega)), up_n (d i 2 hi (by decide) (by omega)), up_n (d i 1 hi (by decide) (by omega))]
  refine ⟨d, fun p hp => ?_, up_s.trans ?_, (up_n (d 1 0 (by decide) (by decide) (by decide))).trans ((up_n (d 1 2 (by decide) (by decide) (by decide))).trans (up_s.trans ?_)), (up_n (d 2 0 (by decide) (by decide) (by decide))).trans (up_s.trans ?_), (n 3 (by decide) (by decide) _ _ _).trans (h3.trans ?_), (n 4 (by decide) (by decide) _ _ _).trans h4, (n 5 (by decide) (by decide) _ _ _).trans h5, (n 6 (by decide) (by decide) _ _ _).trans h6, (n 7 (by decide) (by decide) _ _ _).trans h7, (n 8 (by decide) (by decide) _ _ _).trans h8, (n 9 (by decide) (by decide) _ _ _).trans h9, (n 10 (by decide) (by decide) _ _ _).trans h10, (n 11 (by decide) (by decide) _ _ _).trans h11, (n 12 (by decide) (by decide) _ _ _).trans h12⟩
  · rw [s_plt12] at hp
    rw [s_plt2 σ w k (by omega)]
    exact z p (by omega)
  · rw [nI_add]
    rfl
  · rw [upd_fn (g := fun j => nI (s_plt σ w k 0 j)) (congrArg nI (s_plt0s σ w k)) (fun j hj => congrArg nI (s_plt0 σ w k hj))]
  · rw [upd_fn (g := fun j => nI (s_plt σ w k 1 j)) (congrArg nI (s_plt1s σ w k)) (fun j hj => congrArg nI (s_plt1 σ w k hj))]
  · rw [show (fun j => nI (σ 2 j)) = fun j => nI (s_plt σ w k 2 j) from funext fun j => by
      by_cases y : j = σ 12 0
      · rw [y, s_plt2s, z _ (Nat.le_refl _)]
      · rw [s_plt2 σ w k y]]
theorem m_addPlate_ok {Y : Nat → Nat} {σ : jj_S} {th : Int32} {η : jj_H} (h : m_rep Y σ th η) (w k : Nat) (hw : 1 ≤ w ∧ w ≤ 8) (hk : 1 ≤ k ∧ k ≤ 8) (hn : σ 12 0 < 6) : jj_Ht mX7_addPlate [.ref (Y 0), .int (nI w), .int (nI k)] η 0 0 (m_P Y η (s_plt σ w k) 0 (nI (σ 12 0))) := by
  have h' := h.th 0
  obtain ⟨d, -, h0, h1, h2, h3, h4, h5, h6, h7, h8, h9, h10, h11, h12⟩ := id h'
  have e6 : (nI 6).toInt = 6 := rfl
  have n01 : Y 0 ≠ Y 1 := d 0 1 (by decide) (by decide) (by decide)
  have n02 : Y 0 ≠ Y 2 := d 0 2 (by decide) (by decide) (by decide)
  have n21 : Y 2 ≠ Y 1 := d 2 1 (by decide) (by decide) (by decide)
  refine jj_go tok_X7_addPlate zok_X7 py_7 rfl 60 fun J => ?_
  refine ⟨_, h.o, 0, 0, _, c_isIn1 _ (nI w) (nI 8) 8 rfl, Nat.zero_le _, Nat.zero_le _, fun v η' hv => ?_⟩
  obtain ⟨rfl, rfl⟩ := hv
  have j1w : j1 (nI w) 8 = true := by unfold j1; rw [iN (by omega)]; simp; omega
  have j1k : j1 (nI k) 8 = true := by unfold j1; rw [iN (by omega)]; simp; omega
  refine ⟨fun c1 => absurd (b01_eq0 c1) (by rw [j1w]; decide), fun c1 => ⟨0, 0, _, c_isIn1 _ (nI k) (nI 8) 8 rfl, Nat.zero_le _, Nat.zero_le _, fun v η' hv => ?_⟩⟩
  obtain ⟨rfl, rfl⟩ := hv
  refine ⟨fun c1 => ⟨_, h0, fun c2 => ?_, fun c2 => ?_⟩, fun c1 => absurd (b01_eq0 (Classical.not_not.mp c1)) (by rw [j1k]; decide)⟩
  · refine ⟨_, h0, _, h0, _, _, σ 12 0, h1, rfl, hn, ?_⟩
    refine ⟨_, (up_n n01).trans h0, _, (up_n n01).trans h0, _, _, σ 12 0, (up_n n21).trans h2, rfl, hn, ?_⟩
    refine ⟨_, (up_n n02).trans ((up_n n01).trans h0), _, (up_n n02).trans ((up_n n01).trans h0), _, up_s, trivial, ⟨by rw [p1m1], h'.plt w k, (((m_fr.rf.y 0 (by decide)).y 1 (by decide)).y 2 (by decide)).y 0 (by decide)⟩, Nat.zero_le _, Nat.zero_le _⟩
  · rw [cb_ne, e6, iN (by omega)] at c2
    omega
theorem m_addPlate_x1 {Y : Nat → Nat} {σ : jj_S} {th : Int32} {η : jj_H} (h : m_rep Y σ th η) (w k : Int32) (hj : (j1 w 8 && j1 k 8) = false) : jj_Ht mX7_addPlate [.ref (Y 0), .int w, .int k] η 0 0 (m_P Y η σ (nI 1) 0) := by
  have h' := h.th 0
  refine jj_go tok_X7_addPlate zok_X7 py_7 rfl 60 fun J => ?_
  refine ⟨_, h.o, 0, 0, _, c_isIn1 _ w (nI 8) 8 rfl, Nat.zero_le _, Nat.zero_le _, fun v η' hv => ?_⟩
  obtain ⟨rfl, rfl⟩ := hv
  refine ⟨fun c1 => ⟨_, h'.o, 0, 0, _, m_fin h (nI 1), Nat.zero_le _, Nat.zero_le _, fun v η' hv => ?_⟩, fun c1 => ⟨0, 0, _, c_isIn1 _ k (nI 8) 8 rfl, Nat.zero_le _, Nat.zero_le _, fun v η' hv => ?_⟩⟩
  · have hv2 := hv
    obtain ⟨rfl, -⟩ := hv
    exact ⟨trivial, hv2, by decide, by decide⟩
  obtain ⟨rfl, rfl⟩ := hv
  refine ⟨fun c2 => ?_, fun c2 => ⟨_, h'.o, 0, 0, _, m_fin h (nI 1), Nat.zero_le _, Nat.zero_le _, fun v η' hv => ?_⟩⟩
  · rw [b01_ne0 c1, b01_ne0 c2] at hj
    cases hj
  · have hv2 := hv
    obtain ⟨rfl, -⟩ := hv
    exact ⟨trivial, hv2, by decide, by decide⟩
theorem m_addPlate_x2 {Y : Nat → Nat} {σ : jj_S} {th : Int32} {η : jj_H} (h : m_rep Y σ th η) (w k : Nat) (hw : 1 ≤ w ∧ w ≤ 8) (hk : 1 ≤ k ∧ k ≤ 8) (hn : σ 12 0 = 6) : jj_Ht mX7_addPlate [.ref (Y 0), .int (nI w), .int (nI k)] η 0 0 (m_P Y η σ (nI 2) 0) := by
  have h' := h.th 0
  refine jj_go tok_X7_addPlate zok_X7 py_7 rfl 60 fun J => ?_
  refine ⟨_, h.o, 0, 0, _, c_isIn1 _ (nI w) (nI 8) 8 rfl, Nat.zero_le _, Nat.zero_le _, fun v η' hv => ?_⟩
  obtain ⟨rfl, rfl⟩ := hv
  have j1w : j1 (nI w) 8 = true := by unfold j1; rw [iN (by omega)]; simp; omega
  have j1k : j1 (nI k) 8 = true := by unfold j1; rw [iN (by omega)]; simp; omega
  refine ⟨fun c1 => absurd (b01_eq0 c1) (by rw [j1w]; decide), fun c1 => ⟨0, 0, _, c_isIn1 _ (nI k) (nI 8) 8 rfl, Nat.zero_le _, Nat.zero_le _, fun v η' hv => ?_⟩⟩
  obtain ⟨rfl, rfl⟩ := hv
  refine ⟨fun c1 => ⟨_, h'.o, fun c2 => ?_, fun c2 => ⟨_, h'.o, 0, 0, _, m_fin h (nI 2), Nat.zero_le _, Nat.zero_le _, fun v η' hv => ?_⟩⟩, fun c1 => absurd (b01_eq0 (Classical.not_not.mp c1)) (by rw [j1k]; decide)⟩
  · rw [hn] at c2
    exact absurd rfl c2
  · have hv2 := hv
    obtain ⟨rfl, -⟩ := hv
    exact ⟨trivial, hv2, by decide, by decide⟩
theorem m_rep.pap {Y : Nat → Nat} {σ : jj_S} {th : Int32} {η : jj_H} (h : m_rep Y σ th η) (w k : Nat) : m_rep Y (s_pap σ w k) 0 (jj_up (jj_up (jj_up η (Y 5) (x_i 4 (upd (fun j => nI (σ 4 j)) (σ 12 1) (nI w)))) (Y 6) (x_i 4 (upd (fun j => nI (σ 5 j)) (σ 12 1) (nI k)))) (Y 0) (x_o 7 [.int 0, .int (nI (σ 12 0)), .ref (Y 1), .ref (Y 2), .ref (Y 3), .ref (Y 4), .int (nI (σ 12 1) + nI 1), .ref (Y 5), .ref (Y 6), .int (nI (σ 12 2)), .ref (Y 7), .int (nI (σ 12 3)), .ref (Y 8), .ref (Y 9), .ref (Y 10), .ref (Y 11), .ref (Y 12)])) := by
  obtain ⟨d, z, h0, h1, h2, h3, h4, h5, h6, h7, h8, h9, h10, h11, h12⟩ := h
  have n : ∀ i, i < 13 → i ≠ 0 → i ≠ 5 → i ≠ 6 → ∀ e0 e1 e2, jj_up (jj_up (jj_up η (Y 5) e0) (Y 6) e1) (Y 0) e2 (Y i) = η (Y i) := fun i hi n0 n5 n6 e0 e1 e2 => by
    rw [up_n (d i 0 hi (by decide) n0), up_n (d i 6 hi (by decide) n6), up_n (d i 5 hi (by decide) n5)]
  refine ⟨d, z, up_s.trans ?_, (n 1 (by decide) (by decide) (by decide) (by decide) _ _ _).trans h1, (n 2 (by decide) (by decide) (by decide) (by decide) _ _ _).trans h2, (n 3 (by decide) (by decide) (by decide) (by decide) _ _ _).trans h3, (n 4 (by decide) (by decide) (by decide) (by decide) _ _ _).trans h4, (up_n (d 5 0 (by decide) (by decide) (by decide))).trans ((up_n (d 5 6 (by decide) (by decide) (by decide))).trans (up_s.trans ?_)), (up_n (d 6 0 (by decide) (by decide) (by decide))).trans (up_s.trans ?_), (n 7 (by decide) (by decide) (by decide) (by decide) _ _ _).trans h7, (n 8 (by decide) (by decide) (by decide) (by decide) _ _ _).trans h8, (n 9 (by decide) (by decide) (by decide) (by decide) _ _ _).trans h9, (n 10 (by decide) (by decide) (by decide) (by decide) _ _ _).trans h10, (n 11 (by decide) (by decide) (by decide) (by decide) _ _ _).trans h11, (n 12 (by decide) (by decide) (by decide) (by decide) _ _ _).trans h12⟩
  · rw [nI_add]
    rfl
  · rw [upd_fn (g := fun j => nI (s_pap σ w k 4 j)) (congrArg nI (s_pap4s σ w k)) (fun j hj => congrArg nI (s_pap4 σ w k hj))]
  · rw [upd_fn (g := fun j => nI (s_pap σ w k 5 j)) (congrArg nI (s_pap5s σ w k)) (fun j hj => congrArg nI (s_pap5 σ w k hj))]
theorem m_addPaper_ok {Y : Nat → Nat} {σ : jj_S} {th : Int32} {η : jj_H} (h : m_rep Y σ th η) (w k : Nat) (hw : 1 ≤ w ∧ w ≤ 4) (hk : 1 ≤ k ∧ k ≤ 4) (hn : σ 12 1 < 4) : jj_Ht mX7_addPaper [.ref (Y 0), .int (nI w), .int (nI k)] η 0 0 (m_P Y η (s_pap σ w k) 0 (nI (σ 12 1))) := by
  have h' := h.th 0
  obtain ⟨d, -, h0, h1, h2, h3, h4, h5, h6, h7, h8, h9, h10, h11, h12⟩ := id h'
  have e4 : (nI 4).toInt = 4 := rfl
  have n01 : Y 0 ≠ Y 5 := d 0 5 (by decide) (by decide) (by decide)
  have n02 : Y 0 ≠ Y 6 := d 0 6 (by decide) (by decide) (by decide)
  have n21 : Y 6 ≠ Y 5 := d 6 5 (by decide) (by decide) (by decide)
  refine jj_go tok_X7_addPaper zok_X7 py_7 rfl 60 fun J => ?_
  refine ⟨_, h.o, 0, 0, _, c_isIn1 _ (nI w) (nI 4) 4 rfl, Nat.zero_le _, Nat.zero_le _, fun v η' hv => ?_⟩
  obtain ⟨rfl, rfl⟩ := hv
  have j1w : j1 (nI w) 4 = true := by unfold j1; rw [iN (by omega)]; simp; omega
  have j1k : j1 (nI k) 4 = true := by unfold j1; rw [iN (by omega)]; simp; omega
  refine ⟨fun c1 => absurd (b01_eq0 c1) (by rw [j1w]; decide), fun c1 => ⟨0, 0, _, c_isIn1 _ (nI k) (nI 4) 4 rfl, Nat.zero_le _, Nat.zero_le _, fun v η' hv => ?_⟩⟩
  obtain ⟨rfl, rfl⟩ := hv
  refine ⟨fun c1 => ⟨_, h0, fun c2 => ?_, fun c2 => ?_⟩, fun c1 => absurd (b01_eq0 (Classical.not_not.mp c1)) (by rw [j1k]; decide)⟩
  · refine ⟨_, h0, _, h0, _, _, σ 12 1, h5, rfl, hn, ?_⟩
    refine ⟨_, (up_n n01).trans h0, _, (up_n n01).trans h0, _, _, σ 12 1, (up_n n21).trans h6, rfl, hn, ?_⟩
    refine ⟨_, (up_n n02).trans ((up_n n01).trans h0), _, (up_n n02).trans ((up_n n01).trans h0), _, up_s, trivial, ⟨by rw [p1m1], h'.pap w k, (((m_fr.rf.y 0 (by decide)).y 5 (by decide)).y 6 (by decide)).y 0 (by decide)⟩, Nat.zero_le _, Nat.zero_le _⟩
  · rw [cb_ne, e4, iN (by omega)] at c2
    omega
theorem m_addPaper_x1 {Y : Nat → Nat} {σ : jj_S} {th : Int32} {η : jj_H} (h : m_rep Y σ th η) (w k : Int32) (hj : (j1 w 4 && j1 k 4) = false) : jj_Ht mX7_addPaper [.ref (Y 0), .int w, .int k] η 0 0 (m_P Y η σ (nI 1) 0) := by
  have h' := h.th 0
  refine jj_go tok_X7_addPaper zok_X7 py_7 rfl 60 fun J => ?_
  refine ⟨_, h.o, 0, 0, _, c_isIn1 _ w (nI 4) 4 rfl, Nat.zero_le _, Nat.zero_le _, fun v η' hv => ?_⟩
  obtain ⟨rfl, rfl⟩ := hv
  refine ⟨fun c1 => ⟨_, h'.o, 0, 0, _, m_fin h (nI 1), Nat.zero_le _, Nat.zero_le _, fun v η' hv => ?_⟩, fun c1 => ⟨0, 0, _, c_isIn1 _ k (nI 4) 4 rfl, Nat.zero_le _, Nat.zero_le _, fun v η' hv => ?_⟩⟩
  · have hv2 := hv
    obtain ⟨rfl, -⟩ := hv
    exact ⟨trivial, hv2, by decide, by decide⟩
  obtain ⟨rfl, rfl⟩ := hv
  refine ⟨fun c2 => ?_, fun c2 => ⟨_, h'.o, 0, 0, _, m_fin h (nI 1), Nat.zero_le _, Nat.zero_le _, fun v η' hv => ?_⟩⟩
  · rw [b01_ne0 c1, b01_ne0 c2] at hj
    cases hj
  · have hv2 := hv
    obtain ⟨rfl, -⟩ := hv
    exact ⟨trivial, hv2, by decide, by decide⟩
theorem m_addPaper_x2 {Y : Nat → Nat} {σ : jj_S} {th : Int32} {η : jj_H} (h : m_rep Y σ th η) (w k : Nat) (hw : 1 ≤ w ∧ w ≤ 4) (hk : 1 ≤ k ∧ k ≤ 4) (hn : σ 12 1 = 4) : jj_Ht mX7_addPaper [.ref (Y 0), .int (nI w), .int (nI k)] η 0 0 (m_P Y η σ (nI 2) 0) := by
  have h' := h.th 0
  refine jj_go tok_X7_addPaper zok_X7 py_7 rfl 60 fun J => ?_
  refine ⟨_, h.o, 0, 0, _, c_isIn1 _ (nI w) (nI 4) 4 rfl, Nat.zero_le _, Nat.zero_le _, fun v η' hv => ?_⟩
  obtain ⟨rfl, rfl⟩ := hv
  have j1w : j1 (nI w) 4 = true := by unfold j1; rw [iN (by omega)]; simp; omega
  have j1k : j1 (nI k) 4 = true := by unfold j1; rw [iN (by omega)]; simp; omega
  refine ⟨fun c1 => absurd (b01_eq0 c1) (by rw [j1w]; decide), fun c1 => ⟨0, 0, _, c_isIn1 _ (nI k) (nI 4) 4 rfl, Nat.zero_le _, Nat.zero_le _, fun v η' hv => ?_⟩⟩
  obtain ⟨rfl, rfl⟩ := hv
  refine ⟨fun c1 => ⟨_, h'.o, fun c2 => ?_, fun c2 => ⟨_, h'.o, 0, 0, _, m_fin h (nI 2), Nat.zero_le _, Nat.zero_le _, fun v η' hv => ?_⟩⟩, fun c1 => absurd (b01_eq0 (Classical.not_not.mp c1)) (by rw [j1k]; decide)⟩
  · rw [hn] at c2
    exact absurd rfl c2
  · have hv2 := hv
    obtain ⟨rfl, -⟩ := hv
    exact ⟨trivial, hv2, by decide, by decide⟩
