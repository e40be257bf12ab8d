theorem m_tear_fin {Y : Nat → Nat} {σ : jj_S} {W : jj_H} (s r c : Nat) (h : m_rep Y (t_sd σ s r c 4) 0 W) : m_rep Y (s_tea σ s r c) 0 (jj_up W (Y 0) (x_o 7 [.int 0, .int (nI (t_sd σ s r c 4 12 0)), .ref (Y 1), .ref (Y 2), .ref (Y 3), .ref (Y 4), .int (nI (t_sd σ s r c 4 12 1)), .ref (Y 5), .ref (Y 6), .int (nI (t_sd σ s r c 4 12 2)), .ref (Y 7), .int (nI (t_sd σ s r c 4 12 3) + nI 1), .ref (Y 8), .ref (Y 9), .ref (Y 10), .ref (Y 11), .ref (Y 12)])) := by
  have g : ∀ x, Nat.beq x 10 = false → t_sd σ s r c 4 x = t_s1 σ s r c x := fun x hx => t_sd_g σ s r c x hx 4
  obtain ⟨d, z, h0, h1, h2, h3, h4, h5, h6, h7, h8, h9, h10, h11, h12⟩ := h
  have n : ∀ i, 0 < i → i < 13 → Y i ≠ Y 0 := fun i h0 hi => d i 0 hi (by decide) (by omega)
  rw [g 12 rfl, g 2 rfl] at z
  rw [g 12 rfl]
  rw [g 0 rfl] at h1
  rw [g 1 rfl] at h2
  rw [g 2 rfl] at h3
  rw [g 3 rfl] at h4
  rw [g 4 rfl] at h5
  rw [g 5 rfl] at h6
  rw [g 6 rfl] at h7
  rw [g 7 rfl] at h8
  rw [g 8 rfl] at h9
  rw [g 9 rfl] at h10
  rw [t_fin] at h11
  rw [g 11 rfl] at h12
  refine ⟨d, z, up_s.trans ?_, (up_n (n 1 (by decide) (by decide))).trans h1, (up_n (n 2 (by decide) (by decide))).trans h2, (up_n (n 3 (by decide) (by decide))).trans h3, (up_n (n 4 (by decide) (by decide))).trans h4, (up_n (n 5 (by decide) (by decide))).trans h5, (up_n (n 6 (by decide) (by decide))).trans h6, (up_n (n 7 (by decide) (by decide))).trans h7, (up_n (n 8 (by decide) (by decide))).trans h8, (up_n (n 9 (by decide) (by decide))).trans h9, (up_n (n 10 (by decide) (by decide))).trans h10, (up_n (n 11 (by decide) (by decide))).trans h11, (up_n (n 12 (by decide) (by decide))).trans h12⟩
  rw [nI_add]
  rfl
theorem m_tear_ok {Y : Nat → Nat} {σ : jj_S} {th : Int32} {η : jj_H} (h : m_rep Y σ th η) (ok : s_ok σ) (s r c : Nat) (hs : s < σ 12 2) (hr : r < σ 0 (σ 6 (8 * s))) (hc : c < σ 1 (σ 6 (8 * s))) (hno : ∀ k, k < σ 12 3 → σ 7 k = s → σ 8 k = r → σ 9 k = c → False) (hn : σ 12 3 < 40) : jj_Ht mX7_tear [.ref (Y 0), .int (nI s), .int (nI r), .int (nI c)] η 0 0 (m_P Y η (s_tea σ s r c) 0 (nI (σ 12 3))) := by
  have h' := h.th 0
  have e4 : (nI 4).toInt = 4 := rfl
  have tn : t_tn σ s r c (σ 12 3) = false := by
    cases hb : t_tn σ s r c (σ 12 3) with
    | false => rfl
    | true =>
      rcases (t_tn_iff _).mp hb with ⟨k, k1, k2, k3, k4⟩ | z
      · exact (hno k k1 k2 k3 k4).elim
      · omega
  refine m_tear_lp h ok s r c hs hr hc fun J run => ?_
  rw [tn]
  have loop : ∀ m d, d + m = 4 → ∀ W, m_rep Y (t_sd σ s r c d) 0 W → m_fr Y η W → J W 0 0 176 [(0, .ref (Y 0)), (1, .int (nI s)), (2, .int (nI r)), (3, .int (nI c)), (4, .int (b01 false)), (5, .int (nI d))] [] := by
    intro m
    induction m with
    | zero =>
      intro d hd W hW hf
      have hd : d = 4 := hd
      subst hd
      refine run [] 40 ?_
      refine ⟨fun c1 => ?_, fun c1 => absurd (cb_ge.mpr (Int.le_refl _)) c1⟩
      refine ⟨_, hW.o, _, hW.o, _, up_s, trivial, ⟨?_, m_tear_fin s r c hW, hf.y 0 (by decide)⟩, by decide, by decide⟩
      rw [p1m1, show t_sd σ s r c 4 12 3 = σ 12 3 from congrFun (t_sd_g σ s r c 12 rfl 4) 3]
    | succ m ih =>
      intro d hd W hW hf
      obtain ⟨hk, he⟩ := t_kok ok s r c d hs hr hc hn
      have e12 : t_sd σ s r c d 12 3 = σ 12 3 := congrFun (t_sd_g σ s r c 12 rfl d) 3
      have h11 : W (Y 11) = _ := hW.2.2.2.2.2.2.2.2.2.2.2.2.2.1
      have ih := ih (d + 1) (by omega) _ (hW.frg (4 * σ 12 3 + d) (s_tt σ s r c d)) (hf.y 11 (by decide))
      rw [← nI_add] at ih
      have cp := c_printed hW (σ 12 3) d hk (by omega)
      rw [he] at cp
      refine run [(176, 6)] 60 ?_
      refine ⟨fun c1 => ?_, fun c1 => ?_⟩
      · rw [cb_ge, e4, iN (by omega)] at c1
        omega
      have ow := hW.o
      rw [show m_o Y (t_sd σ s r c d) 0 = x_o 7 [.int 0, .int (nI (t_sd σ s r c d 12 0)), .ref (Y 1), .ref (Y 2), .ref (Y 3), .ref (Y 4), .int (nI (t_sd σ s r c d 12 1)), .ref (Y 5), .ref (Y 6), .int (nI (t_sd σ s r c d 12 2)), .ref (Y 7), .int (nI (σ 12 3)), .ref (Y 8), .ref (Y 9), .ref (Y 10), .ref (Y 11), .ref (Y 12)] by rw [← e12]] at ow
      refine ⟨_, ow, _, ow, _, ow, _, ow, 0, 0, _, cp, by decide, by decide, fun v η' hv => ?_⟩
      obtain ⟨rfl, rfl⟩ := hv
      exact ⟨_, _, 4 * σ 12 3 + d, h11, ix4 _ _, by omega, ih⟩
  refine run [(176, 6)] 120 ?_
  refine ⟨_, h'.o, fun c1 => ?_, fun c1 => absurd (cb_ge.mpr (Int.le_refl _)) c1⟩
  refine ⟨fun c2 => ?_, fun c2 => absurd rfl c2⟩
  have f0 : m_fr Y η (jj_up η (Y 0) (m_o Y σ 0)) := m_fr.rf.y 0 (by decide)
  refine ⟨_, h'.o, _, h'.o, _, _, σ 12 3, h'.2.2.2.2.2.2.2.2.2.2.1, rfl, hn, ?_⟩
  have h8 := h'.w8 (σ 12 3) s
  have f1 := f0.y 8 (by decide) (e := x_i 40 (upd (fun j => nI (σ 7 j)) (σ 12 3) (nI s)))
  refine ⟨_, h8.o, _, h8.o, _, _, σ 12 3, h8.2.2.2.2.2.2.2.2.2.2.2.1, rfl, hn, ?_⟩
  have h9 := h8.w9 (σ 12 3) r
  refine ⟨_, h9.o, _, h9.o, _, _, σ 12 3, h9.2.2.2.2.2.2.2.2.2.2.2.2.1, rfl, hn, ?_⟩
  have h10 := h9.w10 (σ 12 3) c
  refine ⟨_, h10.o, _, h10.o, _, _, σ 12 3, h10.2.2.2.2.2.2.2.2.2.2.2.2.2.2, rfl, hn, ?_⟩
  exact loop 4 0 rfl _ (h10.mnt (σ 12 3) 0) ((((f1).y 9 (by decide)).y 10 (by decide)).y 12 (by decide))
