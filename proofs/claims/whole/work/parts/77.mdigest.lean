/-! THE CHECK: count, digest -/
theorem c_counted {Y : Nat → Nat} {σ : jj_S} {th : Int32} {η : jj_H} (h : m_rep Y σ th η) (ok : s_ok σ) (w : Nat) (hw : w < 12) : jj_Ht mX7_counted [.ref (Y 0), .int (nI w)] η 2 80 (fun v η' => v = some (.int (s_cnt σ w)) ∧ n_fr η η') := by
  have h0 := h.o
  rcases (show w = 0 ∨ w = 1 ∨ w = 2 ∨ w = 3 ∨ w = 4 ∨ w = 5 ∨ w = 6 ∨ w = 7 ∨ w = 8 ∨ w = 9 ∨ w = 10 ∨ w = 11 by omega) with rfl | rfl | rfl | rfl | rfl | rfl | rfl | rfl | rfl | rfl | rfl | rfl
  · refine jj_go tok_X7_counted zok_X7 py_7 rfl 20 fun J => ?_
    exact Or.inl ⟨0, 59, 60, rfl, by decide, rfl, rfl, _, h0, trivial, ⟨rfl, n_fr.rf⟩, by decide, by decide⟩
  · refine jj_go tok_X7_counted zok_X7 py_7 rfl 20 fun J => ?_
    exact Or.inl ⟨1, 64, 65, rfl, by decide, rfl, rfl, _, h0, trivial, ⟨rfl, n_fr.rf⟩, by decide, by decide⟩
  · refine jj_go tok_X7_counted zok_X7 py_7 rfl 20 fun J => ?_
    exact Or.inl ⟨2, 69, 70, rfl, by decide, rfl, rfl, _, h0, trivial, ⟨rfl, n_fr.rf⟩, by decide, by decide⟩
  · refine jj_go tok_X7_counted zok_X7 py_7 rfl 20 fun J => ?_
    exact Or.inl ⟨3, 74, 75, rfl, by decide, rfl, rfl, _, h0, trivial, ⟨rfl, n_fr.rf⟩, by decide, by decide⟩
  · refine jj_go tok_X7_counted zok_X7 py_7 rfl 20 fun J => ?_
    refine Or.inl ⟨4, 79, 80, rfl, by decide, rfl, rfl, _, h0, 0, 0, _, c_inAlbum h ok 4 (Or.inl rfl), by decide, by decide, fun v η' hv => ?_⟩
    obtain ⟨rfl, rfl⟩ := hv
    exact ⟨trivial, ⟨congrArg (fun x => some (Value.int x)) (e_4 ok).symm, n_fr.rf⟩, by decide, by decide⟩
  · refine jj_go tok_X7_counted zok_X7 py_7 rfl 20 fun J => ?_
    refine Or.inl ⟨5, 85, 86, rfl, by decide, rfl, rfl, _, h0, 0, 0, _, c_pairs h ok, by decide, by decide, fun v η' hv => ?_⟩
    obtain ⟨rfl, rfl⟩ := hv
    exact ⟨trivial, ⟨congrArg (fun x => some (Value.int (nI x))) (e_5 ok).symm, n_fr.rf⟩, by decide, by decide⟩
  · refine jj_go tok_X7_counted zok_X7 py_7 rfl 20 fun J => ?_
    refine Or.inl ⟨6, 90, 91, rfl, by decide, rfl, rfl, _, h0, 0, 0, _, c_mblocks h ok, by decide, by decide, fun v η' hv => ?_⟩
    obtain ⟨rfl, rfl⟩ := hv
    exact ⟨trivial, ⟨congrArg (fun x => some (Value.int (nI x))) (e_6 ok).symm, n_fr.rf⟩, by decide, by decide⟩
  · refine jj_go tok_X7_counted zok_X7 py_7 rfl 20 fun J => ?_
    refine Or.inl ⟨7, 95, 96, rfl, by decide, rfl, rfl, _, h0, 2, 80, _, c_mgroups h ok true true (nI 1) (nI 1) rfl rfl (k_R_sy ok true), by decide, by decide, fun v η' hv => ?_⟩
    obtain ⟨rfl, hf⟩ := hv
    exact ⟨trivial, ⟨congrArg (fun x => some (Value.int (nI x))) (e_7 ok).symm, hf⟩, by decide, by decide⟩
  · refine jj_go tok_X7_counted zok_X7 py_7 rfl 20 fun J => ?_
    refine Or.inl ⟨8, 102, 103, rfl, by decide, rfl, rfl, _, h0, 0, 0, _, c_rectangle h ok, by decide, by decide, fun v η' hv => ?_⟩
    obtain ⟨rfl, rfl⟩ := hv
    exact ⟨trivial, ⟨congrArg (fun x => some (Value.int (nI x))) (e_8 ok).symm, n_fr.rf⟩, by decide, by decide⟩
  · refine jj_go tok_X7_counted zok_X7 py_7 rfl 20 fun J => ?_
    refine Or.inl ⟨9, 107, 108, rfl, by decide, rfl, rfl, _, h0, 2, 80, _, c_mgroups h ok false false 0 0 rfl rfl (k_R_sy ok false), by decide, by decide, fun v η' hv => ?_⟩
    obtain ⟨rfl, hf⟩ := hv
    exact ⟨trivial, ⟨congrArg (fun x => some (Value.int (nI x))) (e_9 ok).symm, hf⟩, by decide, by decide⟩
  · refine jj_go tok_X7_counted zok_X7 py_7 rfl 20 fun J => ?_
    refine Or.inl ⟨10, 114, 115, rfl, by decide, rfl, rfl, _, h0, 2, 80, _, c_mgroups h ok false true 0 (nI 1) rfl rfl (k_R_sy ok false), by decide, by decide, fun v η' hv => ?_⟩
    obtain ⟨rfl, hf⟩ := hv
    exact ⟨trivial, ⟨congrArg (fun x => some (Value.int (nI x))) (e_10 ok).symm, hf⟩, by decide, by decide⟩
  · refine jj_go tok_X7_counted zok_X7 py_7 rfl 20 fun J => ?_
    refine Or.inr ⟨Or.inr (by decide), 122, rfl, _, h0, 0, 0, _, c_inAlbum h ok 11 (Or.inr rfl), by decide, by decide, fun v η' hv => ?_⟩
    obtain ⟨rfl, rfl⟩ := hv
    refine ⟨_, h0, 0, 0, _, c_pairs h ok, by decide, by decide, fun v η'' hv => ?_⟩
    obtain ⟨rfl, rfl⟩ := hv
    refine ⟨_, h0, 0, 0, _, c_mblocks h ok, by decide, by decide, fun v η' hv => ?_⟩
    obtain ⟨rfl, rfl⟩ := hv
    exact ⟨trivial, ⟨congrArg (fun x => some (Value.int x)) (e_11 ok).symm, n_fr.rf⟩, by decide, by decide⟩
theorem m_count_ok {Y : Nat → Nat} {σ : jj_S} {th : Int32} {η : jj_H} (h : m_rep Y σ th η) (ok : s_ok σ) (w : Nat) (hw : w < 12) : jj_Ht mX7_count [.ref (Y 0), .int (nI w)] η 2 80 (m_P Y η σ 0 (s_cnt σ w)) := by
  have h' := h.th 0
  refine jj_go tok_X7_count zok_X7 py_7 rfl 40 fun J => ?_
  refine ⟨_, h.o, 0, 0, _, c_isIn0 _ (nI w) (nI 11) 12 rfl, by decide, by decide, fun v η' hv => ?_⟩
  obtain ⟨rfl, rfl⟩ := hv
  have jw : jin (nI w) 12 = true := by rw [jin_nI (by omega)]; exact decide_eq_true hw
  refine ⟨fun c1 => absurd (b01_eq0 c1) (by rw [jw]; decide), fun c1 => ⟨_, h'.o, 2, 80, _, c_counted h' ok w hw, by decide, by decide, fun v η' hv => ?_⟩⟩
  obtain ⟨rfl, hf⟩ := hv
  exact ⟨trivial, m_yes h hf, by decide, by decide⟩
theorem m_count_x {Y : Nat → Nat} {σ : jj_S} {th : Int32} {η : jj_H} (h : m_rep Y σ th η) (w : Int32) (hj : jin w 12 = false) : jj_Ht mX7_count [.ref (Y 0), .int w] η 0 0 (m_P Y η σ (nI 1) 0) := by
  have h' := h.th 0
  refine jj_go tok_X7_count zok_X7 py_7 rfl 40 fun J => ?_
  refine ⟨_, h.o, 0, 0, _, c_isIn0 _ w (nI 11) 12 rfl, by decide, by decide, fun v η' hv => ?_⟩
  obtain ⟨rfl, rfl⟩ := hv
  refine ⟨fun c1 => ⟨_, h'.o, 0, 0, _, m_fin h (nI 1), Nat.zero_le _, Nat.zero_le _, fun v η' hv => ?_⟩, fun c1 => absurd (b01_ne0 c1) (by rw [hj]; decide)⟩
  have hv2 := hv
  obtain ⟨rfl, -⟩ := hv
  exact ⟨trivial, hv2, by decide, by decide⟩
/-- a long answer -/
def m_PL (Y : Nat → Nat) (η : jj_H) (σ : jj_S) (x : Int64) (v : Option Value) (η' : jj_H) : Prop := v = some (.long x) ∧ m_rep Y σ 0 η' ∧ m_fr Y η η'
theorem s_d3_out {σ : jj_S} : ∀ m, s_d3 σ (σ 12 3 + m) = s_d3 σ (σ 12 3)
  | 0 => rfl
  | m + 1 => by
    show (if σ 12 3 + m < σ 12 3 then _ else s_d3 σ (σ 12 3 + m)) = _
    rw [if_neg (by omega), s_d3_out m]
theorem s_orn_out {σ : jj_S} (k : Nat) : ∀ m, s_orn σ k (σ 12 0 + m) = s_orn σ k (σ 12 0)
  | 0 => rfl
  | m + 1 => by
    show (if σ 12 0 + m < σ 12 0 then _ else s_orn σ k (σ 12 0 + m)) = _
    rw [if_neg (by omega), s_orn_out k m]
theorem m_digest {Y : Nat → Nat} {σ : jj_S} {th : Int32} {η : jj_H} (h : m_rep Y σ th η) (ok : s_ok σ) : jj_Ht mX7_digest [.ref (Y 0)] η 464 4040 (m_PL Y η σ (s_d3 σ 40)) := by
  have h' := h.th 0
  have o40 := ok.1.2.2.2
  have o6 := ok.1.1
  have e12 : (nI 12).toInt = 12 := rfl
  have e11 : (nI 11).toInt = 11 := rfl
  have e40 : s_d3 σ 40 = s_d3 σ (σ 12 3) := by
    have := s_d3_out (σ := σ) (40 - σ 12 3)
    rw [show σ 12 3 + (40 - σ 12 3) = 40 by omega] at this
    exact this
  rw [e40]
  refine jj_lp tok_X7_digest zok_X7 py_7 rfl fun J run => ?_
  have inner : ∀ k, k < σ 12 3 → (∀ W, n_fr (jj_up η (Y 0) (m_o Y σ 0)) W → J W (24 + 11 * (k + 1)) (960 + 77 * (k + 1)) 38 [(0, .ref (Y 0)), (1, .long (s_d3 σ (k + 1))), (3, .int (nI (k + 1)))] []) → ∀ m w, w + m = 11 → ∀ W, n_fr (jj_up η (Y 0) (m_o Y σ 0)) W → J W (24 + 11 * k + w) (960 + 77 * k + 7 * w) 49 [(0, .ref (Y 0)), (1, .long (s_d2 σ k (s_d3 σ k) w)), (3, .int (nI k)), (4, .int (nI w))] [] := by
    intro k hk hout m
    have e : s_d3 σ (k + 1) = s_d2 σ k (s_d3 σ k) 11 * 31 + (nI (s_orn σ k 6)).toInt64 := by
      conv => lhs; unfold s_d3
      rw [if_pos hk]
    have e6 : s_orn σ k 6 = s_orn σ k (σ 12 0) := by
      have := s_orn_out (σ := σ) k (6 - σ 12 0)
      rw [show σ 12 0 + (6 - σ 12 0) = 6 by omega] at this
      exact this
    rw [e, e6, ← nI_add k 1, show 24 + 11 * (k + 1) = 24 + 11 * k + 11 by omega, show 960 + 77 * (k + 1) = 960 + 77 * k + 7 * 11 by omega] at hout
    induction m with
    | zero =>
      intro w hw2 W hf
      have hw2 : w = 11 := hw2
      subst hw2
      refine run [(38, 3)] 40 ?_
      refine ⟨fun c1 => ⟨_, hf.at h'.o, 0, 0, _, c_originOf (h'.fr hf) ok k (-1) hk, by omega, by omega, fun v η2 hv => ?_⟩, fun c1 => absurd (cb_ge.mpr (Int.le_refl _)) c1⟩
      obtain ⟨⟨y, rfl, -, hy⟩, rfl⟩ := hv
      rw [hy rfl]
      exact hout η2 hf
    | succ m ih =>
      intro w hw2 W hf
      have ih := ih (w + 1) (by omega)
      rw [← nI_add w 1, show 24 + 11 * k + (w + 1) = 24 + 11 * k + w + 1 by omega, show 960 + 77 * k + 7 * (w + 1) = 960 + 77 * k + 7 * w + 7 by omega] at ih
      refine run [(49, 4)] 40 ?_
      refine ⟨fun c1 => ?_, fun c1 => ⟨_, hf.at h'.o, 1, 7, _, c_stampTold (h'.fr hf) ok k w hk (by omega), by omega, by omega, fun v η2 hv => ?_⟩⟩
      · rw [cb_ge, e11, iN (by omega)] at c1
        omega
      obtain ⟨rfl, hf2⟩ := hv
      exact ih η2 (hf.tr hf2)
  have mid : ∀ m k, k + m = σ 12 3 → ∀ W, n_fr (jj_up η (Y 0) (m_o Y σ 0)) W → J W (24 + 11 * k) (960 + 77 * k) 38 [(0, .ref (Y 0)), (1, .long (s_d3 σ k)), (3, .int (nI k))] [] := by
    intro m
    induction m with
    | zero =>
      intro k hk W hf
      have hk : k = σ 12 3 := hk
      refine run [] 20 ?_
      refine ⟨_, hf.at h'.o, fun c1 => ?_, fun c1 => ?_⟩
      · rw [hk]
        exact ⟨⟨rfl, (h'.fr hf), (m_fr.rf.y 0 (by decide)).tr hf.m⟩, by omega, by omega⟩
      · rw [cb_ge, iN (by omega), iN (by omega)] at c1
        omega
    | succ m ih =>
      intro k hk W hf
      have ih := ih (k + 1) (by omega)
      refine run [(49, 4)] 40 ?_
      refine ⟨_, hf.at h'.o, fun c1 => ?_, fun c1 => ?_⟩
      · rw [cb_ge, iN (by omega), iN (by omega)] at c1
        omega
      · exact inner k (by omega) ih 11 0 rfl W hf
  have first : ∀ m w, w + m = 12 → ∀ W, n_fr (jj_up η (Y 0) (m_o Y σ 0)) W → J W (2 * w) (80 * w) 11 [(0, .ref (Y 0)), (1, .long (s_d1 σ w)), (3, .int (nI w))] [] := by
    intro m
    induction m with
    | zero =>
      intro w hw2 W hf
      have hw2 : w = 12 := hw2
      subst hw2
      refine run [(38, 3)] 40 ?_
      exact ⟨fun c1 => mid (σ 12 3) 0 (by omega) W hf, fun c1 => absurd (cb_ge.mpr (Int.le_refl _)) c1⟩
    | succ m ih =>
      intro w hw2 W hf
      have ih := ih (w + 1) (by omega)
      rw [← nI_add w 1, show 2 * (w + 1) = 2 * w + 2 by omega, show 80 * (w + 1) = 80 * w + 80 by omega] at ih
      refine run [(11, 3)] 40 ?_
      refine ⟨fun c1 => ?_, fun c1 => ⟨_, hf.at h'.o, 2, 80, _, c_counted (h'.fr hf) ok w (by omega), by omega, by omega, fun v η2 hv => ?_⟩⟩
      · rw [cb_ge, e12, iN (by omega)] at c1
        omega
      obtain ⟨rfl, hf2⟩ := hv
      exact ih η2 (hf.tr hf2)
  refine run [(11, 3)] 40 ?_
  exact ⟨_, h.o, first 12 0 rfl _ n_fr.rf⟩
