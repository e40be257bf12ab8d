theorem m_setSheet_lp {Y : Nat → Nat} {σ : jj_S} {th : Int32} {η : jj_H} (h : m_rep Y σ th η) (ok : s_ok σ) (s r c a d : Nat) (hs : s < σ 12 2) (hr : r ≤ 3) (hc : c ≤ 3) (ha : 5 ≤ a ∧ a ≤ 16) (hd : 5 ≤ d ∧ d ≤ 16) {mc ms : Nat} {post : Option Value → jj_H → Prop}
    (body : ∀ J : jj_K, jj_Rn zX7 tX7_setSheet mc ms post (fun _ _ => False) J → J (jj_up η (Y 0) (m_o Y σ 0)) 0 0 74 [(0, .ref (Y 0)), (1, .int (nI s)), (2, .int (nI r)), (3, .int (nI c)), (4, .int (nI a)), (5, .int (nI d)), (6, .int 0)] []) : jj_Ht mX7_setSheet [.ref (Y 0), .int (nI s), .int (nI r), .int (nI c), .int (nI a), .int (nI d)] η mc ms post := by
  have h' := h.th 0
  obtain ⟨o6, o4, o10, o40⟩ := ok.1
  have js : jin (nI s) (σ 12 2) = true := by rw [jin_nI (by omega)]; exact decide_eq_true hs
  have jr : jin (nI r) 4 = true := by rw [jin_nI (by omega)]; exact decide_eq_true (by omega)
  have jc : jin (nI c) 4 = true := by rw [jin_nI (by omega)]; exact decide_eq_true (by omega)
  have ja : jga (nI a) = true := by unfold jga; rw [iN (by omega)]; simp; omega
  have jd : jga (nI d) = true := by unfold jga; rw [iN (by omega)]; simp; omega
  refine jj_lp tok_X7_setSheet zok_X7 py_7 rfl fun J run => ?_
  refine run [(74, 7)] 120 ?_
  refine ⟨_, h.o, _, h'.o, 0, 0, _, c_isIn0 _ (nI s) _ (σ 12 2) (m_1 (by omega)), Nat.zero_le _, Nat.zero_le _, fun v η' hv => ?_⟩
  obtain ⟨rfl, rfl⟩ := hv
  refine ⟨fun c1 => ⟨0, 0, _, c_isIn0 _ (nI r) (nI 3) 4 rfl, Nat.zero_le _, Nat.zero_le _, fun v η' hv => ?_⟩, fun c1 => absurd (b01_eq0 (Classical.not_not.mp c1)) (by rw [js]; decide)⟩
  obtain ⟨rfl, rfl⟩ := hv
  refine ⟨fun c1 => absurd (b01_eq0 c1) (by rw [jr]; decide), fun c1 => ⟨0, 0, _, c_isIn0 _ (nI c) (nI 3) 4 rfl, Nat.zero_le _, Nat.zero_le _, fun v η' hv => ?_⟩⟩
  obtain ⟨rfl, rfl⟩ := hv
  refine ⟨fun c1 => absurd (b01_eq0 c1) (by rw [jc]; decide), fun c1 => ⟨0, 0, _, c_isInG _ (nI a), Nat.zero_le _, Nat.zero_le _, fun v η' hv => ?_⟩⟩
  obtain ⟨rfl, rfl⟩ := hv
  refine ⟨fun c1 => absurd (b01_eq0 c1) (by rw [ja]; decide), fun c1 => ⟨0, 0, _, c_isInG _ (nI d), Nat.zero_le _, Nat.zero_le _, fun v η' hv => ?_⟩⟩
  obtain ⟨rfl, rfl⟩ := hv
  refine ⟨fun c1 => ?_, fun c1 => absurd (b01_eq0 (Classical.not_not.mp c1)) (by rw [jd]; decide)⟩
  exact body J run
theorem m_setSheet_ok {Y : Nat → Nat} {σ : jj_S} {th : Int32} {η : jj_H} (h : m_rep Y σ th η) (ok : s_ok σ) (s r c a d : Nat) (hs : s < σ 12 2) (hno : ∀ k, k < σ 12 3 → σ 7 k ≠ s) (hr : r ≤ 3) (hc : c ≤ 3) (ha : 5 ≤ a ∧ a ≤ 16) (hd : 5 ≤ d ∧ d ≤ 16) : jj_Ht mX7_setSheet [.ref (Y 0), .int (nI s), .int (nI r), .int (nI c), .int (nI a), .int (nI d)] η 1 4 (m_P Y η (s_set σ s r c a d) 0 (nI (σ 0 (σ 6 (8 * s)) * σ 1 (σ 6 (8 * s))))) := by
  have h' := h.th 0
  obtain ⟨D, -, h0, h1, h2, h3, h4, h5, h6, h7, h8, h9, h10, h11, h12⟩ := id h'
  obtain ⟨o6, o4, o10, o40⟩ := ok.1
  have b1 := (ok.2.2.2.1 s hs).1
  have n07 : Y 0 ≠ Y 7 := D 0 7 (by decide) (by decide) (by decide)
  have n17 : Y 1 ≠ Y 7 := D 1 7 (by decide) (by decide) (by decide)
  have n27 : Y 2 ≠ Y 7 := D 2 7 (by decide) (by decide) (by decide)
  refine m_setSheet_lp h ok s r c a d hs hr hc ha hd fun J run => ?_
  have loop : ∀ m j, j + m = σ 12 3 → J (jj_up η (Y 0) (m_o Y σ 0)) 0 0 74 [(0, .ref (Y 0)), (1, .int (nI s)), (2, .int (nI r)), (3, .int (nI c)), (4, .int (nI a)), (5, .int (nI d)), (6, .int (nI j))] [] := by
    intro m
    induction m with
    | zero =>
      intro j hj
      refine run [] 120 ?_
      refine ⟨_, h0, fun c1 => ?_, fun c1 => ?_⟩
      · refine ⟨4, rfl, by decide, by decide, by decide, fun q hq => ?_⟩
        refine ⟨_, _, 0, up_s, nI_0.symm, by decide, _, _, 1, up_s, rfl, by decide, _, _, 2, up_s, rfl, by decide, _, _, 3, up_s, rfl, by decide, ?_⟩
        have nf : ∀ f0 f1 f2 f3 f4, n_fr (jj_up η (Y 0) (m_o Y σ 0)) (jj_up (jj_up (jj_up (jj_up (jj_up (jj_up η (Y 0) (m_o Y σ 0)) q f0) q f1) q f2) q f3) q f4) := fun f0 f1 f2 f3 f4 => ((((n_fr.up1 hq).up hq).up hq).up hq).up hq
        refine ⟨_, (nf _ _ _ _ _).at h0, ?_⟩
        refine ⟨4, _, 80, _, 0, 8 * s + 4, 4, up_s, (nf _ _ _ _ _).at h7, nI_0.symm, ix8 _ _, rfl, by omega, by omega, ?_⟩
        have e8 : ∀ F : Nat → Int32, nI (σ 6 (8 * s)) = va_cpy F (fun j => nI (σ 6 j)) 0 (8 * s + 4) 4 (8 * s) := fun F => (if_neg (by omega)).symm
        refine ⟨_, (up_n n07).trans ((nf _ _ _ _ _).at h0), _, (up_n n07).trans ((nf _ _ _ _ _).at h0), _, _, 8 * s, up_s, ix80 _, by omega, _, _, σ 6 (8 * s), (up_n n17).trans ((nf _ _ _ _ _).at h1), (e8 _).symm, by omega, ?_⟩
        refine ⟨_, (up_n n07).trans ((nf _ _ _ _ _).at h0), _, (up_n n07).trans ((nf _ _ _ _ _).at h0), _, _, 8 * s, up_s, ix80 _, by omega, _, _, σ 6 (8 * s), (up_n n27).trans ((nf _ _ _ _ _).at h2), (e8 _).symm, by omega, ?_⟩
        refine ⟨trivial, ⟨by rw [pk_mul], (h'.fr (nf _ _ _ _ _)).set s r c a d ⟨rfl, rfl, rfl, rfl⟩, ((m_fr.rf.y 0 (by decide)).tr (nf _ _ _ _ _).m).y 7 (by decide)⟩, by decide, by decide⟩
      · rw [cb_ge, iN (by omega), iN (by omega)] at c1
        omega
    | succ m ih =>
      intro j hj
      have ih := ih (j + 1) (by omega)
      rw [← nI_add] at ih
      have b7 := (ok.2.2.2.2.1 j (by omega)).1
      refine run [(74, 7)] 40 ?_
      refine ⟨_, h0, fun c1 => ?_, fun c1 => ⟨_, h0, _, _, j, h8, rfl, by omega, fun c2 => ih, fun c2 => ?_⟩⟩
      · rw [cb_ge, iN (by omega), iN (by omega)] at c1
        omega
      · rw [cb_ne, iN (by omega), iN (by omega)] at c2
        exact absurd (show σ 7 j = s by omega) (hno j (by omega))
  exact loop (σ 12 3) 0 (by omega)
theorem m_setSheet_x3 {Y : Nat → Nat} {σ : jj_S} {th : Int32} {η : jj_H} (h : m_rep Y σ th η) (ok : s_ok σ) (s r c a d k : Nat) (hs : s < σ 12 2) (hk : k < σ 12 3) (hk2 : σ 7 k = s) (hr : r ≤ 3) (hc : c ≤ 3) (ha : 5 ≤ a ∧ a ≤ 16) (hd : 5 ≤ d ∧ d ≤ 16) : jj_Ht mX7_setSheet [.ref (Y 0), .int (nI s), .int (nI r), .int (nI c), .int (nI a), .int (nI d)] η 0 0 (m_P Y η σ (nI 3) 0) := by
  have h' := h.th 0
  obtain ⟨D, -, h0, h1, h2, h3, h4, h5, h6, h7, h8, h9, h10, h11, h12⟩ := id h'
  obtain ⟨o6, o4, o10, o40⟩ := ok.1
  refine m_setSheet_lp h ok s r c a d hs hr hc ha hd fun J run => ?_
  have loop : ∀ m j, j + m = k → J (jj_up η (Y 0) (m_o Y σ 0)) 0 0 74 [(0, .ref (Y 0)), (1, .int (nI s)), (2, .int (nI r)), (3, .int (nI c)), (4, .int (nI a)), (5, .int (nI d)), (6, .int (nI j))] [] := by
    intro m
    induction m with
    | zero =>
      intro j hj
      have hj : j = k := hj
      refine run [] 40 ?_
      refine ⟨_, h0, fun c1 => ?_, fun c1 => ⟨_, h0, _, _, j, h8, rfl, by omega, fun c2 => ?_, fun c2 => ⟨_, h0, 0, 0, _, m_fin h (nI 3), Nat.zero_le _, Nat.zero_le _, fun v η' hv => ?_⟩⟩⟩
      · rw [cb_ge, iN (by omega), iN (by omega)] at c1
        omega
      · exact absurd (show nI (σ 7 j) = nI s by rw [hj, hk2]) c2
      · have hv2 := hv
        obtain ⟨rfl, -⟩ := hv
        exact ⟨trivial, hv2, by decide, by decide⟩
    | succ m ih =>
      intro j hj
      have ih := ih (j + 1) (by omega)
      rw [← nI_add] at ih
      refine run [(74, 7)] 40 ?_
      refine ⟨_, h0, fun c1 => ?_, fun c1 => ⟨_, h0, _, _, j, h8, rfl, by omega, fun c2 => ih, fun c2 => ⟨_, h0, 0, 0, _, m_fin h (nI 3), Nat.zero_le _, Nat.zero_le _, fun v η' hv => ?_⟩⟩⟩
      · rw [cb_ge, iN (by omega), iN (by omega)] at c1
        omega
      · have hv2 := hv
        obtain ⟨rfl, -⟩ := hv
        exact ⟨trivial, hv2, by decide, by decide⟩
  exact loop k 0 (by omega)
theorem m_setSheet_x1 {Y : Nat → Nat} {σ : jj_S} {th : Int32} {η : jj_H} (h : m_rep Y σ th η) (ok : s_ok σ) (s r c a d : Int32) (hs : jin s (σ 12 2) = false) : jj_Ht mX7_setSheet [.ref (Y 0), .int s, .int r, .int c, .int a, .int d] η 0 0 (m_P Y η σ (nI 1) 0) := by
  have h' := h.th 0
  obtain ⟨o6, o4, o10, o40⟩ := ok.1
  refine jj_go tok_X7_setSheet zok_X7 py_7 rfl 60 fun J => ?_
  refine ⟨_, h.o, _, h'.o, 0, 0, _, c_isIn0 _ s _ (σ 12 2) (m_1 (by omega)), Nat.zero_le _, Nat.zero_le _, fun v η' hv => ?_⟩
  obtain ⟨rfl, rfl⟩ := hv
  refine ⟨fun c1 => absurd (b01_ne0 c1) (by rw [hs]; decide), fun c1 => ⟨_, h'.o, 0, 0, _, m_fin h (nI 1), Nat.zero_le _, Nat.zero_le _, fun v η' hv => ?_⟩⟩
  have hv2 := hv
  obtain ⟨rfl, -⟩ := hv
  exact ⟨trivial, hv2, by decide, by decide⟩
theorem m_setSheet_x2 {Y : Nat → Nat} {σ : jj_S} {th : Int32} {η : jj_H} (h : m_rep Y σ th η) (ok : s_ok σ) (s : Nat) (r c a d : Int32) (hs : s < σ 12 2) (hx : (jin r 4 && jin c 4 && jga a && jga d) = false) : jj_Ht mX7_setSheet [.ref (Y 0), .int (nI s), .int r, .int c, .int a, .int d] η 0 0 (m_P Y η σ (nI 2) 0) := by
  have h' := h.th 0
  obtain ⟨o6, o4, o10, o40⟩ := ok.1
  have js : jin (nI s) (σ 12 2) = true := by rw [jin_nI (by omega)]; exact decide_eq_true hs
  have fin : ∀ t v η', m_P Y η σ t 0 v η' → ∃ x, v = some (.int x) ∧ m_P Y η σ t 0 (some (.int x)) η' := fun t v η' hv => ⟨0, hv.1, rfl, hv.2⟩
  refine jj_go tok_X7_setSheet zok_X7 py_7 rfl 90 fun J => ?_
  refine ⟨_, h.o, _, h'.o, 0, 0, _, c_isIn0 _ (nI s) _ (σ 12 2) (m_1 (by omega)), Nat.zero_le _, Nat.zero_le _, fun v η' hv => ?_⟩
  obtain ⟨rfl, rfl⟩ := hv
  refine ⟨fun c1 => ⟨0, 0, _, c_isIn0 _ r (nI 3) 4 rfl, Nat.zero_le _, Nat.zero_le _, fun v η' hv => ?_⟩, fun c1 => absurd (b01_eq0 (Classical.not_not.mp c1)) (by rw [js]; decide)⟩
  obtain ⟨rfl, rfl⟩ := hv
  refine ⟨fun c1 => ⟨_, h'.o, 0, 0, _, m_fin h (nI 2), Nat.zero_le _, Nat.zero_le _, fun v η' hv => ?_⟩, fun c1 => ⟨0, 0, _, c_isIn0 _ c (nI 3) 4 rfl, Nat.zero_le _, Nat.zero_le _, fun v η' hv => ?_⟩⟩
  · obtain ⟨x, rfl, hv⟩ := fin _ v η' hv
    exact ⟨trivial, hv, by decide, by decide⟩
  obtain ⟨rfl, rfl⟩ := hv
  refine ⟨fun c2 => ⟨_, h'.o, 0, 0, _, m_fin h (nI 2), Nat.zero_le _, Nat.zero_le _, fun v η' hv => ?_⟩, fun c2 => ⟨0, 0, _, c_isInG _ a, Nat.zero_le _, Nat.zero_le _, fun v η' hv => ?_⟩⟩
  · obtain ⟨x, rfl, hv⟩ := fin _ v η' hv
    exact ⟨trivial, hv, by decide, by decide⟩
  obtain ⟨rfl, rfl⟩ := hv
  refine ⟨fun c3 => ⟨_, h'.o, 0, 0, _, m_fin h (nI 2), Nat.zero_le _, Nat.zero_le _, fun v η' hv => ?_⟩, fun c3 => ⟨0, 0, _, c_isInG _ d, Nat.zero_le _, Nat.zero_le _, fun v η' hv => ?_⟩⟩
  · obtain ⟨x, rfl, hv⟩ := fin _ v η' hv
    exact ⟨trivial, hv, by decide, by decide⟩
  obtain ⟨rfl, rfl⟩ := hv
  refine ⟨fun c4 => ?_, fun c4 => ⟨_, h'.o, 0, 0, _, m_fin h (nI 2), Nat.zero_le _, Nat.zero_le _, fun v η' hv => ?_⟩⟩
  · rw [b01_ne0 c1, b01_ne0 c2, b01_ne0 c3, b01_ne0 c4] at hx
    cases hx
  · obtain ⟨x, rfl, hv⟩ := fin _ v η' hv
    exact ⟨trivial, hv, by decide, by decide⟩
