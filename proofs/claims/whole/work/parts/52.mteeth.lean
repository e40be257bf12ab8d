theorem c_between {Y : Nat → Nat} {σ : jj_S} {th : Int32} {η : jj_H} (h : m_rep Y σ th η) (k r c d : Nat) (hk : m_kok σ k) (hd : d = 1 ∨ d = 2) : jj_Ht mX7_between [.ref (Y 0), .int (nI k), .int (nI r), .int (nI c), .int (nI d)] η 0 0 (fun v η' => v = some (.int (nI (s_cut (σ 1 (s_pl σ k)) (σ 6 (8 * σ 7 k + 3)) (s_all σ k d) r c d))) ∧ η' = η) := by
  obtain ⟨-, -, h0, h1, h2, h3, h4, h5, h6, h7, h8, -⟩ := id h
  obtain ⟨k1, k2, k3, k4, k5, k6, -⟩ := id hk
  have hu := sal_pos σ hk d
  have hg0 : s_all σ k d = 2 ^ s_g σ k d - 1 := rfl
  have hg9 : s_g σ k d < 31 := by
    unfold s_g
    rcases (show d % 2 = 0 ∨ d % 2 = 1 by omega) with z | z <;> rw [z]
    · exact Nat.lt_of_le_of_lt k5.2 (by decide)
    · exact Nat.lt_of_le_of_lt k6.2 (by decide)
  have hg3 : 1 ≤ 2 ^ s_g σ k d := Nat.one_le_two_pow
  generalize hC : σ 1 (s_pl σ k) = C
  generalize hz : σ 6 (8 * σ 7 k + 3) = z
  rcases hd with rfl | rfl
  · have e1 : nI 2 * (nI r * nI C + nI c) + nI 1 = nI (2 * (r * C + c) + 1) := by rw [pk_mul, nI_add, pk_mul, nI_add]
    have ec := i_cut z (2 * (r * C + c) + 1) _ hg9
    rw [← hg0] at ec
    have hlt : (z * 31 + (2 * (r * C + c) + 1)) * 40503 % 4294967296 / 32 % 2 ^ s_g σ k 1 < 2 ^ s_g σ k 1 := Nat.mod_lt _ (by omega)
    refine jj_go tok_X7_between zok_X7 py_7 rfl 80 fun J => ?_
    refine ⟨_, h0, _, _, k, h8, rfl, k1, ?_⟩
    refine ⟨_, h0, _, h0, _, _, 8 * σ 7 k, h7, ix80 _, by omega, _, _, s_pl σ k, h2, rfl, k3, fun c1 => ?_, fun c1 => absurd (by show ¬ (_ = _); decide) c1⟩
    refine ⟨_, h0, _, _, 8 * σ 7 k + 3, h7, ix8 _ _, by omega, _, h0, 0, 0, _, c_all h k 1 hk (by decide), Nat.le_refl _, Nat.le_refl _, fun v η' hv => ?_⟩
    obtain ⟨rfl, rfl⟩ := hv
    rw [hC, hz, e1]
    unfold s_cut s_ct
    rw [if_pos rfl]
    refine ⟨fun c2 => ?_, fun c2 => ⟨_, h0, 0, 0, _, c_all h k 1 hk (by decide), Nat.le_refl _, Nat.le_refl _, fun v η'' hv => ?_⟩⟩
    · rw [ec, cb_eq, i0, iN (by omega)] at c2
      refine ⟨trivial, ⟨?_, rfl⟩, Nat.zero_le _, Nat.zero_le _⟩
      rw [hg0, show 2 ^ s_g σ k 1 - 1 + 1 = 2 ^ s_g σ k 1 by omega, if_pos (Or.inl (by omega))]
    · obtain ⟨rfl, rfl⟩ := hv
      rw [ec, cb_eq, i0, iN (by omega)] at c2
      refine ⟨fun c3 => ?_, fun c3 => ?_⟩
      · rw [ec, cb_ne, iN (by omega), iN (by omega)] at c3
        refine ⟨trivial, ⟨?_, rfl⟩, Nat.zero_le _, Nat.zero_le _⟩
        rw [ec, hg0, show 2 ^ s_g σ k 1 - 1 + 1 = 2 ^ s_g σ k 1 by omega, if_neg (by omega)]
      · rw [ec, cb_ne, iN (by omega), iN (by omega)] at c3
        refine ⟨trivial, ⟨?_, rfl⟩, Nat.zero_le _, Nat.zero_le _⟩
        rw [hg0, show 2 ^ s_g σ k 1 - 1 + 1 = 2 ^ s_g σ k 1 by omega, if_pos (Or.inr (by omega))]
  · have e1 : nI 2 * (nI r * nI C + nI c) + 0 = nI (2 * (r * C + c) + 0) := by rw [pk_mul, nI_add, pk_mul, ← nI_0, nI_add]
    have ec := i_cut z (2 * (r * C + c) + 0) _ hg9
    rw [← hg0] at ec
    have hlt : (z * 31 + (2 * (r * C + c) + 0)) * 40503 % 4294967296 / 32 % 2 ^ s_g σ k 2 < 2 ^ s_g σ k 2 := Nat.mod_lt _ (by omega)
    refine jj_go tok_X7_between zok_X7 py_7 rfl 80 fun J => ?_
    refine ⟨_, h0, _, _, k, h8, rfl, k1, ?_⟩
    refine ⟨_, h0, _, h0, _, _, 8 * σ 7 k, h7, ix80 _, by omega, _, _, s_pl σ k, h2, rfl, k3, fun c1 => absurd rfl c1, fun c1 => ?_⟩
    refine ⟨_, h0, _, _, 8 * σ 7 k + 3, h7, ix8 _ _, by omega, _, h0, 0, 0, _, c_all h k 2 hk (by decide), Nat.le_refl _, Nat.le_refl _, fun v η' hv => ?_⟩
    obtain ⟨rfl, rfl⟩ := hv
    rw [hC, hz, e1]
    unfold s_cut s_ct
    rw [if_neg (show ¬ (2 : Nat) = 1 by decide)]
    refine ⟨fun c2 => ?_, fun c2 => ⟨_, h0, 0, 0, _, c_all h k 2 hk (by decide), Nat.le_refl _, Nat.le_refl _, fun v η'' hv => ?_⟩⟩
    · rw [ec, cb_eq, i0, iN (by omega)] at c2
      refine ⟨trivial, ⟨?_, rfl⟩, Nat.zero_le _, Nat.zero_le _⟩
      rw [hg0, show 2 ^ s_g σ k 2 - 1 + 1 = 2 ^ s_g σ k 2 by omega, if_pos (Or.inl (by omega))]
    · obtain ⟨rfl, rfl⟩ := hv
      rw [ec, cb_eq, i0, iN (by omega)] at c2
      refine ⟨fun c3 => ?_, fun c3 => ?_⟩
      · rw [ec, cb_ne, iN (by omega), iN (by omega)] at c3
        refine ⟨trivial, ⟨?_, rfl⟩, Nat.zero_le _, Nat.zero_le _⟩
        rw [ec, hg0, show 2 ^ s_g σ k 2 - 1 + 1 = 2 ^ s_g σ k 2 by omega, if_neg (by omega)]
      · rw [ec, cb_ne, iN (by omega), iN (by omega)] at c3
        refine ⟨trivial, ⟨?_, rfl⟩, Nat.zero_le _, Nat.zero_le _⟩
        rw [hg0, show 2 ^ s_g σ k 2 - 1 + 1 = 2 ^ s_g σ k 2 by omega, if_pos (Or.inr (by omega))]
