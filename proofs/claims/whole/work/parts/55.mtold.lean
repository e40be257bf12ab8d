theorem c_stampTold {Y : Nat → Nat} {σ : jj_S} {th : Int32} {η : jj_H} (h : m_rep Y σ th η) (ok : s_ok σ) (k w : Nat) (hk : k < σ 12 3) (hw : w < 11) : jj_Ht mX7_stampTold [.ref (Y 0), .int (nI k), .int (nI w)] η 1 7 (fun v η' => v = some (.int (s_det σ k w)) ∧ n_fr η η') := by
  obtain ⟨-, -, h0, h1, h2, h3, h4, h5, h6, h7, h8, h9, h10, h11, h12⟩ := id h
  have hm := ok.m hk
  obtain ⟨k1, k2, k3, k4, k5, k6, k7, k8, k9, k10, k11, k12, k13, k14, k15⟩ := id hm
  have e4 : (nI 4).toInt = 4 := rfl
  refine jj_go tok_X7_stampTold zok_X7 py_7 rfl 120 fun J => ?_
  refine ⟨_, h0, _, _, k, h8, rfl, k1, fun c1 => ?_, fun c1 => ?_⟩
  · rw [cb_ge, e4, iN (by omega)] at c1
    refine ⟨7, rfl, by decide, by decide, by decide, fun q hq => ?_⟩
    have n0 : n_fr η (jj_up η q (x_i 7 (fun _ => 0))) := n_fr.up1 hq
    refine ⟨_, n0.at h0, _, _, 8 * σ 7 k + 6, n0.at h7, ix8 _ _, by omega, _, _, 0, up_s, nI_0.symm, by decide, ?_⟩
    have n1 : ∀ f0, n_fr η (jj_up (jj_up η q (x_i 7 (fun _ => 0))) q f0) := fun f0 => n0.up hq
    refine ⟨_, (n1 _).at h0, _, _, 8 * σ 7 k + 7, (n1 _).at h7, ix8 _ _, by omega, _, _, 1, up_s, rfl, by decide, ?_⟩
    have n2 : ∀ f0 f1, n_fr η (jj_up (jj_up (jj_up η q (x_i 7 (fun _ => 0))) q f0) q f1) := fun f0 f1 => (n1 f0).up hq
    refine ⟨_, (n2 _ _).at h0, _, _, 8 * σ 7 k + 1, (n2 _ _).at h7, ix8 _ _, by omega, _, _, 2, up_s, rfl, by decide, ?_⟩
    have n3 : ∀ f0 f1 f2, n_fr η (jj_up (jj_up (jj_up (jj_up η q (x_i 7 (fun _ => 0))) q f0) q f1) q f2) := fun f0 f1 f2 => (n2 f0 f1).up hq
    refine ⟨_, (n3 _ _ _).at h0, 0, 0, _, c_mark0 (h.fr (n3 _ _ _)) k hm, by decide, by decide, fun v η' hv => ?_⟩
    obtain ⟨rfl, rfl⟩ := hv
    refine ⟨_, _, 3, up_s, rfl, by decide, ?_⟩
    have n4 : ∀ f0 f1 f2 f3, n_fr η (jj_up (jj_up (jj_up (jj_up (jj_up η q (x_i 7 (fun _ => 0))) q f0) q f1) q f2) q f3) := fun f0 f1 f2 f3 => (n3 f0 f1 f2).up hq
    refine ⟨_, (n4 _ _ _ _).at h0, 0, 0, _, c_flawsOf (h.fr (n4 _ _ _ _)) ok k hk, by decide, by decide, fun v η' hv => ?_⟩
    obtain ⟨rfl, rfl⟩ := hv
    refine ⟨_, _, 4, up_s, rfl, by decide, ?_⟩
    have n5 : ∀ f0 f1 f2 f3 f4, n_fr η (jj_up (jj_up (jj_up (jj_up (jj_up (jj_up η q (x_i 7 (fun _ => 0))) q f0) q f1) q f2) q f3) q f4) := fun f0 f1 f2 f3 f4 => (n4 f0 f1 f2 f3).up hq
    refine ⟨_, (n5 _ _ _ _ _).at h0, 0, 0, _, c_mprice (h.fr (n5 _ _ _ _ _)) ok k hk, by decide, by decide, fun v η' hv => ?_⟩
    obtain ⟨rfl, rfl⟩ := hv
    refine ⟨_, _, 5, up_s, rfl, by decide, ?_⟩
    have n6 : ∀ f0 f1 f2 f3 f4 f5, n_fr η (jj_up (jj_up (jj_up (jj_up (jj_up (jj_up (jj_up η q (x_i 7 (fun _ => 0))) q f0) q f1) q f2) q f3) q f4) q f5) := fun f0 f1 f2 f3 f4 f5 => (n5 f0 f1 f2 f3 f4).up hq
    refine ⟨_, (n6 _ _ _ _ _ _).at h0, _, _, k, (n6 _ _ _ _ _ _).at h12, rfl, k1, _, _, 6, up_s, rfl, by decide, ?_⟩
    refine ⟨_, _, w - 4, up_s, pk_sub (by omega), by omega, trivial, ⟨?_, (n6 _ _ _ _ _ _).up hq⟩, by decide, by decide⟩
    rcases (show w = 4 ∨ w = 5 ∨ w = 6 ∨ w = 7 ∨ w = 8 ∨ w = 9 ∨ w = 10 by omega) with rfl | rfl | rfl | rfl | rfl | rfl | rfl <;> rfl
  · rw [cb_ge, e4, iN (by omega)] at c1
    refine ⟨_, h0, _, _, 4 * k + w, h11, ix4 _ _, by omega, trivial, ⟨?_, n_fr.rf⟩, by decide, by decide⟩
    rcases (show w = 0 ∨ w = 1 ∨ w = 2 ∨ w = 3 by omega) with rfl | rfl | rfl | rfl <;> rfl
/-- two numbers of two digits -/
theorem dig2 {a b c d w : Nat} (hb : b < w) (hd : d < w) : a * w + b = c * w + d ↔ a = c ∧ b = d := by
  constructor
  · intro e
    have e1 : (a * w + b) % w = (c * w + d) % w := by rw [e]
    rw [Nat.mul_add_mod_of_lt hb, Nat.mul_add_mod_of_lt hd] at e1
    subst e1
    have e2 : a * w = c * w := Nat.add_right_cancel e
    exact ⟨Nat.eq_of_mul_eq_mul_right (by omega) e2, rfl⟩
  · rintro ⟨rfl, rfl⟩
    rfl
theorem c_fit {Y : Nat → Nat} {σ : jj_S} {th : Int32} {η : jj_H} (h : m_rep Y σ th η) (ok : s_ok σ) (a d b : Nat) (ha : a < σ 12 3) (hb : b < σ 12 3) (hd : d < 4) : jj_Ht mX7_fit [.ref (Y 0), .int (nI a), .int (nI d), .int (nI b)] η 0 0 (fun v η' => v = some (.int (b01 (s_fit σ a d b))) ∧ η' = η) := by
  obtain ⟨-, -, h0, h1, h2, h3, h4, h5, h6, h7, h8, h9, h10, h11, h12⟩ := id h
  have ma := ok.m ha
  have mb := ok.m hb
  obtain ⟨a1, a2, a3, a4, a5, a6, a7, a8, a9, a10, a11, a12, a13, a14, a15⟩ := id ma
  obtain ⟨b1, b2, b3, b4, b5, b6, b7, b8, b9, b10, b11, b12, b13, b14, b15⟩ := id mb
  have sa := sal_pos σ ma d
  have ta := s_teeth_le ok ha hd
  have tb := s_teeth_le ok hb (show (d + 2) % 4 < 4 by omega)
  have sb := sal_pos σ mb ((d + 2) % 4)
  obtain ⟨-, -, -, -, -, -, r1, r2⟩ := ok.kn hb
  have no : ∀ x : Prop, (s_fit σ a d b = true → False) → s_fit σ a d b = false := fun _ hx => by
    cases hf : s_fit σ a d b with
    | false => rfl
    | true => exact (hx hf).elim
  have un : s_fit σ a d b = true ↔ σ 10 (4 * a + d) ≠ 0 ∧ σ 10 (4 * a + d) ≠ s_all σ a d ∧ σ 10 (4 * b + (d + 2) % 4) = s_all σ a d - σ 10 (4 * a + d) ∧ a ≠ b ∧ s_pa σ a = s_pa σ b ∧ σ 6 (8 * σ 7 a + 6) = σ 6 (8 * σ 7 b + 6) ∧ σ 6 (8 * σ 7 a + 7) = σ 6 (8 * σ 7 b + 7) ∧ s_mk σ a d b = true := by
    unfold s_fit
    simp only [Bool.and_eq_true, decide_eq_true_eq, and_assoc]
  refine jj_go tok_X7_fit zok_X7 py_7 rfl 160 fun J => ?_
  refine ⟨_, h0, _, _, a, h8, rfl, a1, ?_⟩
  refine ⟨_, h0, _, _, b, h8, rfl, b1, ?_⟩
  refine ⟨_, h0, _, _, 4 * a + d, h11, ix4 _ _, by omega, ?_⟩
  refine ⟨fun c1 => ?_, fun c1 => ?_⟩
  · rw [cb_eq, iN (by omega), iN (by omega)] at c1
    exact ⟨Or.inl rfl, ⟨rz (no True fun z => (un.mp z).2.2.2.1 (by omega)), rfl⟩, by decide, by decide⟩
  rw [cb_eq, iN (by omega), iN (by omega)] at c1
  have p1 : σ 6 (8 * σ 7 a + 1) < 4 := a4
  have p2 : σ 6 (8 * σ 7 b + 1) < 4 := b4
  refine ⟨_, h0, _, _, 8 * σ 7 a + 1, h7, ix8 _ _, by omega, _, h0, _, _, 8 * σ 7 b + 1, h7, ix8 _ _, by omega, fun c2 => ?_, fun c2 => ?_⟩
  · rw [cb_ne, iN (by omega), iN (by omega)] at c2
    exact ⟨Or.inl rfl, ⟨rz (no True fun z => by have e : σ 6 (8 * σ 7 a + 1) = σ 6 (8 * σ 7 b + 1) := (un.mp z).2.2.2.2.1; omega), rfl⟩, by decide, by decide⟩
  rw [cb_ne, iN (by omega), iN (by omega)] at c2
  have c2 : s_pa σ a = s_pa σ b := by
    show σ 6 (8 * σ 7 a + 1) = σ 6 (8 * σ 7 b + 1)
    omega
  refine ⟨_, h0, _, _, 8 * σ 7 a + 6, h7, ix8 _ _, by omega, _, h0, _, _, 8 * σ 7 b + 6, h7, ix8 _ _, by omega, fun c3 => ?_, fun c3 => ?_⟩
  · rw [cb_ne, iN (by omega), iN (by omega)] at c3
    exact ⟨Or.inl rfl, ⟨rz (no True fun z => by have e := (un.mp z).2.2.2.2.2.1; omega), rfl⟩, by decide, by decide⟩
  rw [cb_ne, iN (by omega), iN (by omega)] at c3
  refine ⟨_, h0, _, _, 8 * σ 7 a + 7, h7, ix8 _ _, by omega, _, h0, _, _, 8 * σ 7 b + 7, h7, ix8 _ _, by omega, fun c4 => ?_, fun c4 => ?_⟩
  · rw [cb_eq, iN (by omega), iN (by omega)] at c4
    refine ⟨fun c5 => ?_, fun c5 => ?_⟩
    · rw [cb_eq, i0, iN (by omega)] at c5
      exact ⟨Or.inl rfl, ⟨rz (no True fun z => by have e := (un.mp z).1; omega), rfl⟩, by decide, by decide⟩
    rw [cb_eq, i0, iN (by omega)] at c5
    refine ⟨_, h0, 0, 0, _, c_all h a d ma hd, by decide, by decide, fun v η' hv => ?_⟩
    obtain ⟨rfl, rfl⟩ := hv
    refine ⟨fun c6 => ?_, fun c6 => ?_⟩
    · rw [cb_eq, iN (by omega), iN (by omega)] at c6
      exact ⟨Or.inl rfl, ⟨rz (no True fun z => by have e := (un.mp z).2.1; omega), rfl⟩, by decide, by decide⟩
    rw [cb_eq, iN (by omega), iN (by omega)] at c6
    refine ⟨_, h0, by decide, _, _, 4 * b + (d + 2) % 4, h11, by rw [nI_add, pk_rem (by omega) (by decide) (by decide), ix4], by omega, _, h0, 0, 0, _, c_all h a d ma hd, by decide, by decide, fun v η'' hv => ?_⟩
    obtain ⟨rfl, rfl⟩ := hv
    refine ⟨fun c7 => ?_, fun c7 => ⟨Or.inl rfl, ⟨rz (no True fun z => by
      rw [cb_eq, pk_sub ta, iN (by omega), iN (by omega)] at c7
      have e := (un.mp z).2.2.1
      omega), rfl⟩, by decide, by decide⟩⟩
    rw [cb_eq, pk_sub ta, iN (by omega), iN (by omega)] at c7
    refine ⟨_, h0, 0, 0, _, c_mark0 h b mb, by decide, by decide, fun v η' hv => ?_⟩
    obtain ⟨rfl, rfl⟩ := hv
    refine ⟨d, rfl, hd, d, rfl, hd, _, h0, 0, 0, _, c_markd h a d ma hd, by decide, by decide, fun v η'' hv => ?_⟩
    obtain ⟨rfl, rfl⟩ := hv
    have u1 : s_nx (σ 5 (s_pa σ a)) (s_mr σ a) 0 d % σ 5 (s_pa σ a) < σ 5 (s_pa σ a) := Nat.mod_lt _ (by omega)
    have u2 : s_nx (σ 4 (s_pa σ a)) (s_mc σ a) 1 d % σ 4 (s_pa σ a) < σ 4 (s_pa σ a) := Nat.mod_lt _ (by omega)
    have mk : s_mk σ a d b = true ↔ s_mr σ b * σ 4 (s_pa σ b) + s_mc σ b = s_nx (σ 5 (s_pa σ a)) (s_mr σ a) 0 d % σ 5 (s_pa σ a) * σ 4 (s_pa σ a) + s_nx (σ 4 (s_pa σ a)) (s_mc σ a) 1 d % σ 4 (s_pa σ a) := by
      unfold s_mk
      rw [Bool.and_eq_true, decide_eq_true_eq, decide_eq_true_eq, c2, dig2 r2 (by rw [← c2]; exact u2)]
    have l1 : s_mr σ b * σ 4 (s_pa σ b) ≤ 4 * 4 := Nat.mul_le_mul (by omega) b11.2
    have l2 : s_nx (σ 5 (s_pa σ a)) (s_mr σ a) 0 d % σ 5 (s_pa σ a) * σ 4 (s_pa σ a) ≤ 4 * 4 := Nat.mul_le_mul (by omega) a11.2
    refine ⟨fun c8 => ?_, fun c8 => ?_⟩
    · rw [cb_ne, iN (by omega), iN (by omega)] at c8
      exact ⟨Or.inl rfl, ⟨rz (no True fun z => by have e := mk.mp (un.mp z).2.2.2.2.2.2.2; omega), rfl⟩, by decide, by decide⟩
    · rw [cb_ne, iN (by omega), iN (by omega)] at c8
      exact ⟨Or.inr rfl, ⟨ro (un.mpr ⟨by omega, by omega, by omega, by omega, c2, by omega, by omega, mk.mpr (by omega)⟩), rfl⟩, by decide, by decide⟩
  · rw [cb_eq, iN (by omega), iN (by omega)] at c4
    exact ⟨Or.inl rfl, ⟨rz (no True fun z => by have e := (un.mp z).2.2.2.2.2.2.1; omega), rfl⟩, by decide, by decide⟩
