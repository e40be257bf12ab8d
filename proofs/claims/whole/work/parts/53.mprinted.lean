theorem jin_m {r R : Nat} (h : r < R) (hR : R ≤ 8) : jin (nI r + (-1)) R = decide (r ≠ 0) := by
  cases r with
  | zero => rfl
  | succ r =>
    rw [show nI (r + 1) + (-1) = nI r from pk_m1 r, jin_nI (by omega)]
    exact decide_eq_decide.mpr (by omega)
theorem jin_p {r R : Nat} (h : r < R) (hR : R ≤ 8) : jin (nI r + 1) R = decide (r + 1 ≠ R) := by
  rw [show nI r + 1 = nI (r + 1) from nI_1 r, jin_nI (by omega)]
  exact decide_eq_decide.mpr (by omega)
theorem jin_z {r R : Nat} (h : r < R) (hR : R ≤ 8) : jin (nI r + 0) R = true := by
  rw [a_z, jin_nI (by omega)]
  exact decide_eq_true h
theorem c_printed {Y : Nat → Nat} {σ : jj_S} {th : Int32} {η : jj_H} (h : m_rep Y σ th η) (k d : Nat) (hk : m_kok σ k) (hd : d < 4) : jj_Ht mX7_printed [.ref (Y 0), .int (nI k), .int (nI d)] η 0 0 (fun v η' => v = some (.int (nI (s_prt (σ 0 (s_pl σ k)) (σ 1 (s_pl σ k)) (σ 6 (8 * σ 7 k + 3)) (s_all σ k d) (σ 8 k) (σ 9 k) d))) ∧ η' = η) := by
  obtain ⟨-, -, h0, h1, h2, h3, h4, h5, h6, h7, h8, h9, h10, -⟩ := id h
  obtain ⟨k1, k2, k3, k4, k5, k6, k7, k8, k9, k10, -⟩ := id hk
  have hu := sal_pos σ hk d
  rcases lt4 hd with rfl | rfl | rfl | rfl
  · refine jj_go tok_X7_printed zok_X7 py_7 rfl 80 fun J => ?_
    refine ⟨_, h0, _, _, k, h9, rfl, k1, 0, rfl, by decide, ?_⟩
    refine ⟨_, h0, _, _, k, h10, rfl, k1, 0, rfl, by decide, ?_⟩
    refine ⟨_, h0, _, h0, _, _, k, h8, rfl, k1, _, _, 8 * σ 7 k, h7, ix80 _, by omega, _, h0, 0, 0, _, c_isPlace h (s_pl σ k) _ _ k3 k7.2 k8.2, Nat.le_refl _, Nat.le_refl _, fun v η' hv => ?_⟩
    obtain ⟨rfl, rfl⟩ := hv
    have eb : (jin (nI (σ 8 k) + jj_sv 0 0) (σ 0 (s_pl σ k)) && jin (nI (σ 9 k) + jj_sv 1 0) (σ 1 (s_pl σ k))) = decide (σ 8 k ≠ 0) := by
      rw [show jj_sv 0 0 = -1 from rfl, show jj_sv 1 0 = 0 from rfl, jin_m k9 k7.2, jin_z k10 k8.2, Bool.and_true]
    refine ⟨fun c1 => ?_, fun c1 => ?_⟩
    · have c1 := b01_ne0 c1
      rw [eb, decide_eq_true_eq] at c1
      obtain ⟨r, hr⟩ : ∃ r, σ 8 k = r + 1 := ⟨σ 8 k - 1, by omega⟩
      refine ⟨fun q => absurd (show nI 0 = nI 1 from q) (by decide), fun _ => ⟨fun _ => ?_, fun q => absurd (show ¬ nI 0 = nI 2 by decide) q⟩⟩
      refine ⟨_, h0, 0, 0, _, c_all h k 0 hk hd, Nat.le_refl _, Nat.le_refl _, fun v η'' hv => ?_⟩
      obtain ⟨rfl, rfl⟩ := hv
      refine ⟨fun q => absurd rfl q, fun _ => ?_⟩
      have cb := c_between h k r (σ 9 k) 2 hk (Or.inr rfl)
      rw [show nI r = nI (σ 8 k) + jj_sv 0 0 by rw [hr]; exact (pk_m1 r).symm, show nI (σ 9 k) = nI (σ 9 k) + jj_sv 1 0 from (a_z _).symm] at cb
      refine ⟨_, h0, 0, 0, _, cb, Nat.le_refl _, Nat.le_refl _, fun v η' hv => ?_⟩
      obtain ⟨rfl, rfl⟩ := hv
      refine ⟨trivial, ⟨?_, rfl⟩, Nat.zero_le _, Nat.zero_le _⟩
      have e7 : s_all σ k 2 = s_all σ k 0 := rfl
      rw [e7, hr, pk_sub (s_cut_le hu.1)]
      rfl
    · have c1 := b01_eq0 (Classical.not_not.mp c1)
      rw [eb, decide_eq_false_iff_not, Classical.not_not] at c1
      refine ⟨trivial, ⟨?_, rfl⟩, Nat.zero_le _, Nat.zero_le _⟩
      rw [c1]
      rfl
  · refine jj_go tok_X7_printed zok_X7 py_7 rfl 80 fun J => ?_
    refine ⟨_, h0, _, _, k, h9, rfl, k1, 1, rfl, by decide, ?_⟩
    refine ⟨_, h0, _, _, k, h10, rfl, k1, 1, rfl, by decide, ?_⟩
    refine ⟨_, h0, _, h0, _, _, k, h8, rfl, k1, _, _, 8 * σ 7 k, h7, ix80 _, by omega, _, h0, 0, 0, _, c_isPlace h (s_pl σ k) _ _ k3 k7.2 k8.2, Nat.le_refl _, Nat.le_refl _, fun v η' hv => ?_⟩
    obtain ⟨rfl, rfl⟩ := hv
    have eb : (jin (nI (σ 8 k) + jj_sv 0 1) (σ 0 (s_pl σ k)) && jin (nI (σ 9 k) + jj_sv 1 1) (σ 1 (s_pl σ k))) = decide (σ 9 k + 1 ≠ σ 1 (s_pl σ k)) := by
      rw [show jj_sv 0 1 = 0 from rfl, show jj_sv 1 1 = 1 from rfl, jin_z k9 k7.2, jin_p k10 k8.2, Bool.true_and]
    refine ⟨fun c1 => ?_, fun c1 => ?_⟩
    · have c1 := b01_ne0 c1
      rw [eb, decide_eq_true_eq] at c1
      refine ⟨fun _ => ?_, fun q => absurd rfl q⟩
      refine ⟨_, h0, _, _, k, h9, rfl, k1, _, h0, _, _, k, h10, rfl, k1, _, h0, 0, 0, _, c_between h k (σ 8 k) (σ 9 k) 1 hk (Or.inl rfl), Nat.le_refl _, Nat.le_refl _, fun v η'' hv => ?_⟩
      obtain ⟨rfl, rfl⟩ := hv
      refine ⟨trivial, ⟨?_, rfl⟩, Nat.zero_le _, Nat.zero_le _⟩
      show some (Value.int (nI (s_cut _ _ _ _ _ 1))) = some (Value.int (nI (if _ then _ else _)))
      rw [if_neg c1]
    · have c1 := b01_eq0 (Classical.not_not.mp c1)
      rw [eb, decide_eq_false_iff_not, Classical.not_not] at c1
      refine ⟨trivial, ⟨?_, rfl⟩, Nat.zero_le _, Nat.zero_le _⟩
      show some (Value.int 0) = some (Value.int (nI (if _ then _ else _)))
      rw [if_pos c1]
      rfl
  · refine jj_go tok_X7_printed zok_X7 py_7 rfl 80 fun J => ?_
    refine ⟨_, h0, _, _, k, h9, rfl, k1, 2, rfl, by decide, ?_⟩
    refine ⟨_, h0, _, _, k, h10, rfl, k1, 2, rfl, by decide, ?_⟩
    refine ⟨_, h0, _, h0, _, _, k, h8, rfl, k1, _, _, 8 * σ 7 k, h7, ix80 _, by omega, _, h0, 0, 0, _, c_isPlace h (s_pl σ k) _ _ k3 k7.2 k8.2, Nat.le_refl _, Nat.le_refl _, fun v η' hv => ?_⟩
    obtain ⟨rfl, rfl⟩ := hv
    have eb : (jin (nI (σ 8 k) + jj_sv 0 2) (σ 0 (s_pl σ k)) && jin (nI (σ 9 k) + jj_sv 1 2) (σ 1 (s_pl σ k))) = decide (σ 8 k + 1 ≠ σ 0 (s_pl σ k)) := by
      rw [show jj_sv 0 2 = 1 from rfl, show jj_sv 1 2 = 0 from rfl, jin_p k9 k7.2, jin_z k10 k8.2, Bool.and_true]
    refine ⟨fun c1 => ?_, fun c1 => ?_⟩
    · have c1 := b01_ne0 c1
      rw [eb, decide_eq_true_eq] at c1
      refine ⟨fun q => absurd (show nI 2 = nI 1 from q) (by decide), fun _ => ⟨fun q => absurd rfl q, fun _ => ?_⟩⟩
      refine ⟨_, h0, _, _, k, h9, rfl, k1, _, h0, _, _, k, h10, rfl, k1, _, h0, 0, 0, _, c_between h k (σ 8 k) (σ 9 k) 2 hk (Or.inr rfl), Nat.le_refl _, Nat.le_refl _, fun v η'' hv => ?_⟩
      obtain ⟨rfl, rfl⟩ := hv
      refine ⟨trivial, ⟨?_, rfl⟩, Nat.zero_le _, Nat.zero_le _⟩
      show some (Value.int (nI (s_cut _ _ _ _ _ 2))) = some (Value.int (nI (if _ then _ else _)))
      rw [if_neg c1]
    · have c1 := b01_eq0 (Classical.not_not.mp c1)
      rw [eb, decide_eq_false_iff_not, Classical.not_not] at c1
      refine ⟨trivial, ⟨?_, rfl⟩, Nat.zero_le _, Nat.zero_le _⟩
      show some (Value.int 0) = some (Value.int (nI (if _ then _ else _)))
      rw [if_pos c1]
      rfl
  · refine jj_go tok_X7_printed zok_X7 py_7 rfl 80 fun J => ?_
    refine ⟨_, h0, _, _, k, h9, rfl, k1, 3, rfl, by decide, ?_⟩
    refine ⟨_, h0, _, _, k, h10, rfl, k1, 3, rfl, by decide, ?_⟩
    refine ⟨_, h0, _, h0, _, _, k, h8, rfl, k1, _, _, 8 * σ 7 k, h7, ix80 _, by omega, _, h0, 0, 0, _, c_isPlace h (s_pl σ k) _ _ k3 k7.2 k8.2, Nat.le_refl _, Nat.le_refl _, fun v η' hv => ?_⟩
    obtain ⟨rfl, rfl⟩ := hv
    have eb : (jin (nI (σ 8 k) + jj_sv 0 3) (σ 0 (s_pl σ k)) && jin (nI (σ 9 k) + jj_sv 1 3) (σ 1 (s_pl σ k))) = decide (σ 9 k ≠ 0) := by
      rw [show jj_sv 0 3 = 0 from rfl, show jj_sv 1 3 = -1 from rfl, jin_z k9 k7.2, jin_m k10 k8.2, Bool.true_and]
    refine ⟨fun c1 => ?_, fun c1 => ?_⟩
    · have c1 := b01_ne0 c1
      rw [eb, decide_eq_true_eq] at c1
      obtain ⟨r, hr⟩ : ∃ r, σ 9 k = r + 1 := ⟨σ 9 k - 1, by omega⟩
      refine ⟨fun q => absurd (show nI 3 = nI 1 from q) (by decide), fun _ => ⟨fun _ => ?_, fun q => absurd (show ¬ nI 3 = nI 2 by decide) q⟩⟩
      refine ⟨_, h0, 0, 0, _, c_all h k 3 hk hd, Nat.le_refl _, Nat.le_refl _, fun v η'' hv => ?_⟩
      obtain ⟨rfl, rfl⟩ := hv
      refine ⟨fun _ => ?_, fun q => absurd (show ¬ nI 3 = 0 by decide) q⟩
      have cb := c_between h k (σ 8 k) r 1 hk (Or.inl rfl)
      rw [show nI r = nI (σ 9 k) + jj_sv 1 3 by rw [hr]; exact (pk_m1 r).symm, show nI (σ 8 k) = nI (σ 8 k) + jj_sv 0 3 from (a_z _).symm] at cb
      refine ⟨_, h0, 0, 0, _, cb, Nat.le_refl _, Nat.le_refl _, fun v η' hv => ?_⟩
      obtain ⟨rfl, rfl⟩ := hv
      refine ⟨trivial, ⟨?_, rfl⟩, Nat.zero_le _, Nat.zero_le _⟩
      have e7 : s_all σ k 1 = s_all σ k 3 := rfl
      rw [e7, hr, pk_sub (s_cut_le hu.1)]
      rfl
    · have c1 := b01_eq0 (Classical.not_not.mp c1)
      rw [eb, decide_eq_false_iff_not, Classical.not_not] at c1
      refine ⟨trivial, ⟨?_, rfl⟩, Nat.zero_le _, Nat.zero_le _⟩
      rw [c1]
      rfl
