/-! THE CHECK: what a stamp tells -/
/-- what was there stays; more may be made -/
def n_fr (η η' : jj_H) : Prop := ∀ b, η b ≠ none → η' b = η b
theorem n_fr.rf {η : jj_H} : n_fr η η := fun _ _ => rfl
theorem n_fr.tr {η η' η'' : jj_H} (h : n_fr η η') (h2 : n_fr η' η'') : n_fr η η'' := fun b hb => (h2 b (by rw [h b hb]; exact hb)).trans (h b hb)
theorem n_fr.up {η η' : jj_H} {q : Nat} {e : va_E} (h : n_fr η η') (hq : η q = none) : n_fr η (jj_up η' q e) := fun b hb => (up_n (fun z => hb (by rw [z]; exact hq))).trans (h b hb)
theorem n_fr.up1 {η : jj_H} {q : Nat} {e : va_E} (hq : η q = none) : n_fr η (jj_up η q e) := n_fr.up n_fr.rf hq
theorem n_fr.at {η η' : jj_H} {b : Nat} {e : va_E} (h : n_fr η η') (he : η b = some e) : η' b = some e := (h b (by rw [he]; exact fun z => by cases z)).trans he
theorem m_rep.fr {Y : Nat → Nat} {σ : jj_S} {th : Int32} {η η' : jj_H} (h : m_rep Y σ th η) (g : n_fr η η') : m_rep Y σ th η' := by
  obtain ⟨d, z, h0, h1, h2, h3, h4, h5, h6, h7, h8, h9, h10, h11, h12⟩ := h
  exact ⟨d, z, g.at h0, g.at h1, g.at h2, g.at h3, g.at h4, g.at h5, g.at h6, g.at h7, g.at h8, g.at h9, g.at h10, g.at h11, g.at h12⟩
theorem c_flawsAt {Y : Nat → Nat} {σ : jj_S} {th : Int32} {η : jj_H} (h : m_rep Y σ th η) (p r c x : Nat) (hp : p < 6) (hok : s_okp σ p) (hc : c < 8) (hr : r < 8) (hx : x < 2147483648) : jj_Ht mX7_flawsAt [.ref (Y 0), .int (nI p), .int (nI r), .int (nI c), .int (nI x)] η 0 0 (fun v η' => v = some (.int (nI (s_fl σ p (8 * r + c) x))) ∧ η' = η) := by
  obtain ⟨-, -, h0, h1, h2, h3, h4, -⟩ := id h
  have hlt := hok.1
  refine jj_lp tok_X7_flawsAt zok_X7 py_7 rfl fun J run => ?_
  have loop : ∀ m j, j + m = σ 2 p → J η 0 0 6 [(0, .ref (Y 0)), (1, .int (nI p)), (2, .int (nI r)), (3, .int (nI c)), (4, .int (nI x)), (5, .int (nI (s_fln σ p (8 * r + c) x j))), (6, .int (nI j))] [] := by
    intro m
    induction m with
    | zero =>
      intro j hj
      refine run [] 20 ?_
      refine ⟨_, h0, _, _, p, h3, rfl, hp, fun c1 => ?_, fun c1 => ?_⟩
      · rw [show j = σ 2 p by omega]
        exact ⟨trivial, ⟨rfl, rfl⟩, Nat.zero_le _, Nat.zero_le _⟩
      · rw [cb_ge, iN (by omega), iN (by omega)] at c1
        omega
    | succ m ih =>
      intro j hj
      have ih := ih (j + 1) (by omega)
      rw [← nI_add] at ih
      obtain ⟨o1, o2, o3, o4, o5⟩ := hok.2 j (by omega)
      have hf : s_fln σ p (8 * r + c) x (j + 1) = if s_fl1 σ p (8 * r + c) x j then s_fln σ p (8 * r + c) x j ||| 2 ^ σ 3 (5 * (10 * p + j) + 2) else s_fln σ p (8 * r + c) x j := rfl
      refine run [(6, 7)] 80 ?_
      refine ⟨_, h0, _, _, p, h3, rfl, hp, fun c1 => ?_, fun c1 => ?_⟩
      · rw [cb_ge, iN (by omega), iN (by omega)] at c1
        omega
      refine ⟨_, h0, _, _, 5 * (10 * p + j), h4, ix5 _ _, by omega, fun c2 => ?_, fun c2 => ⟨_, h0, _, _, 5 * (10 * p + j) + 1, h4, ix5e _ _ _, by omega, fun c3 => ?_, fun c3 => ?_⟩⟩
      · rw [cb_ne, iN (by omega), iN (by omega)] at c2
        rw [hf, if_neg (by unfold s_fl1; rw [decide_eq_false (by omega)]; simp)] at ih
        exact ih
      · rw [cb_ne, iN (by omega), iN (by omega)] at c3
        rw [cb_ne, iN (by omega), iN (by omega)] at c2
        rw [hf, if_neg (by unfold s_fl1; rw [decide_eq_false (by omega)]; simp)] at ih
        exact ih
      · rw [cb_ne, iN (by omega), iN (by omega)] at c3
        rw [cb_ne, iN (by omega), iN (by omega)] at c2
        refine ⟨_, h0, _, _, 5 * (10 * p + j) + 3, h4, ix5e _ _ _, by omega, _, h0, _, _, 5 * (10 * p + j) + 4, h4, ix5e _ _ _, by omega, 0, 0, _, c_isIn η _ _ _, Nat.le_refl _, Nat.le_refl _, fun v η' hv => ?_⟩
        obtain ⟨rfl, rfl⟩ := hv
        have e1 : (decide ((nI (σ 3 (5 * (10 * p + j) + 3))).toInt ≤ (nI x).toInt) && decide ((nI x).toInt ≤ (nI (σ 3 (5 * (10 * p + j) + 4)) - nI 1).toInt)) = s_fl1 σ p (8 * r + c) x j := by
          unfold s_fl1
          rw [m_1 (by omega), iN (by omega), iN (by omega), decide_eq_true (show 8 * σ 3 (5 * (10 * p + j)) + σ 3 (5 * (10 * p + j) + 1) = 8 * r + c by omega), Bool.true_and]
          congr 1
          · exact decide_eq_decide.mpr (by omega)
          · exact decide_eq_decide.mpr (by omega)
        refine ⟨fun c4 => ?_, fun c4 => ?_⟩
        · have c4 := b01_eq0 c4
          rw [e1] at c4
          rw [hf, if_neg (by rw [c4]; decide)] at ih
          exact ih
        · have c4 := b01_ne0 c4
          rw [e1] at c4
          rw [hf, if_pos c4, ← fa_or, ← sh_pow _ (by omega)] at ih
          exact ⟨_, h0, _, _, 5 * (10 * p + j) + 2, h4, ix5e _ _ _, by omega, ih⟩
  refine run [(6, 7)] 20 ?_
  exact loop (σ 2 p) 0 (by omega)
theorem m_kok.okp {σ : jj_S} (h : s_ok σ) {k : Nat} (hk : k < σ 12 3) : s_okp σ (s_pl σ k) := h.p (h.k hk).2.1
theorem c_flawsOf {Y : Nat → Nat} {σ : jj_S} {th : Int32} {η : jj_H} (h : m_rep Y σ th η) (ok : s_ok σ) (k : Nat) (hk : k < σ 12 3) : jj_Ht mX7_flawsOf [.ref (Y 0), .int (nI k)] η 0 0 (fun v η' => v = some (.int (nI (s_flk σ k))) ∧ η' = η) := by
  obtain ⟨-, -, h0, h1, h2, h3, h4, h5, h6, h7, h8, h9, h10, -⟩ := id h
  obtain ⟨k1, k2, k3, k4, k5, k6, k7, k8, k9, k10, k11, k12, k13, k14, k15⟩ := ok.m hk
  refine jj_go tok_X7_flawsOf zok_X7 py_7 rfl 60 fun J => ?_
  refine ⟨_, h0, _, _, k, h8, rfl, k1, ?_⟩
  refine ⟨_, h0, _, _, 8 * σ 7 k, h7, ix80 _, by omega, _, h0, _, _, k, h9, rfl, k1, _, h0, _, _, k, h10, rfl, k1, _, h0, _, _, 8 * σ 7 k + 2, h7, ix8 _ _, by omega, _, h0, 0, 0, _, c_flawsAt h (s_pl σ k) (σ 8 k) (σ 9 k) (σ 6 (8 * σ 7 k + 2)) k3 (m_kok.okp ok hk) (by omega) (by omega) (by omega), Nat.le_refl _, Nat.le_refl _, fun v η' hv => ?_⟩
  obtain ⟨rfl, rfl⟩ := hv
  exact ⟨trivial, ⟨rfl, rfl⟩, Nat.zero_le _, Nat.zero_le _⟩
theorem c_mprice {Y : Nat → Nat} {σ : jj_S} {th : Int32} {η : jj_H} (h : m_rep Y σ th η) (ok : s_ok σ) (k : Nat) (hk : k < σ 12 3) : jj_Ht mX7_price [.ref (Y 0), .int (nI k)] η 0 0 (fun v η' => v = some (.int (s_price σ k)) ∧ η' = η) := by
  refine jj_go tok_X7_price zok_X7 py_7 rfl 60 fun J => ?_
  refine ⟨_, h.o, 0, 0, _, c_flawsOf h ok k hk, Nat.le_refl _, Nat.le_refl _, fun v η' hv => ?_⟩
  obtain ⟨rfl, rfl⟩ := hv
  refine ⟨0, 0, _, c_bitCountI η' _, Nat.le_refl _, Nat.le_refl _, fun v η'' hv => ?_⟩
  obtain ⟨rfl, rfl⟩ := hv
  exact ⟨trivial, ⟨rfl, rfl⟩, Nat.zero_le _, Nat.zero_le _⟩
theorem mnx_mod {n m b d : Nat} (h : 1 ≤ n ∧ n ≤ 4) : s_nx n m b d % n = s_nx n (m % n) b d % n := by
  have e1 : (m + n - 1) % n = (m % n + n - 1) % n := by
    rcases (show n = 1 ∨ n = 2 ∨ n = 3 ∨ n = 4 by omega) with rfl | rfl | rfl | rfl <;> omega
  have e2 : (m + n + 1) % n = (m % n + n + 1) % n := by
    rcases (show n = 1 ∨ n = 2 ∨ n = 3 ∨ n = 4 by omega) with rfl | rfl | rfl | rfl <;> omega
  have e3 : (m + n) % n = (m % n + n) % n := by
    rcases (show n = 1 ∨ n = 2 ∨ n = 3 ∨ n = 4 by omega) with rfl | rfl | rfl | rfl <;> omega
  unfold s_nx
  split
  · exact e1
  · exact e2
  · exact e1
  · exact e2
  · exact e3
theorem i_nx0 (a b n : Nat) : nI a + nI b + 0 + nI n = nI (a + b + n) := by rw [nI_add, a_z, nI_add]
/-- the mark as both do it: x and y the sums that are taken by the remainder -/
theorem c_markx {Y : Nat → Nat} {σ : jj_S} {th : Int32} {η : jj_H} (h : m_rep Y σ th η) (k x y : Nat) (u v : Int32) (hk : m_kok σ k) (hx : nI (σ 8 k) + nI (σ 6 (8 * σ 7 k + 4)) + u + nI (σ 5 (s_pa σ k)) = nI x) (hy : nI (σ 9 k) + nI (σ 6 (8 * σ 7 k + 5)) + v + nI (σ 4 (s_pa σ k)) = nI y) (hx3 : x < 2147483648) (hy3 : y < 2147483648) : jj_Ht mX7_mark [.ref (Y 0), .int (nI k), .int u, .int v] η 0 0 (fun w η' => w = some (.int (nI (x % σ 5 (s_pa σ k) * σ 4 (s_pa σ k) + y % σ 4 (s_pa σ k)))) ∧ η' = η) := by
  obtain ⟨-, -, h0, h1, h2, h3, h4, h5, h6, h7, h8, h9, h10, -⟩ := id h
  obtain ⟨k1, k2, k3, k4, k5, k6, k7, k8, k9, k10, k11, k12, k13, k14, k15⟩ := hk
  refine jj_go tok_X7_mark zok_X7 py_7 rfl 90 fun J => ?_
  refine ⟨_, h0, _, _, k, h8, rfl, k1, ?_⟩
  refine ⟨_, h0, _, _, 8 * σ 7 k + 1, h7, ix8 _ _, by omega, ?_⟩
  refine ⟨_, h0, _, _, k, h9, rfl, k1, _, h0, _, _, 8 * σ 7 k + 4, h7, ix8 _ _, by omega, _, h0, _, _, s_pa σ k, h6, rfl, k4, _, h0, _, _, s_pa σ k, h6, rfl, k4, nI_ne0 (by omega) (by omega), ?_⟩
  refine ⟨_, h0, _, _, k, h10, rfl, k1, _, h0, _, _, 8 * σ 7 k + 5, h7, ix8 _ _, by omega, _, h0, _, _, s_pa σ k, h5, rfl, k4, _, h0, _, _, s_pa σ k, h5, rfl, k4, nI_ne0 (by omega) (by omega), ?_⟩
  refine ⟨_, h0, _, _, s_pa σ k, h5, rfl, k4, trivial, ⟨?_, rfl⟩, Nat.zero_le _, Nat.zero_le _⟩
  rw [hx, hy, pk_rem hx3 (by omega) (by omega), pk_rem hy3 (by omega) (by omega), pk_mul, nI_add]
theorem c_mark0 {Y : Nat → Nat} {σ : jj_S} {th : Int32} {η : jj_H} (h : m_rep Y σ th η) (k : Nat) (hk : m_kok σ k) : jj_Ht mX7_mark [.ref (Y 0), .int (nI k), .int 0, .int 0] η 0 0 (fun w η' => w = some (.int (nI (s_mr σ k * σ 4 (s_pa σ k) + s_mc σ k))) ∧ η' = η) := by
  obtain ⟨k1, k2, k3, k4, k5, k6, k7, k8, k9, k10, k11, k12, k13, k14, k15⟩ := id hk
  refine (c_markx h k _ _ 0 0 hk (i_nx0 _ _ _) (i_nx0 _ _ _) (by omega) (by omega)).mono ?_
  rintro w η' ⟨e1, e2⟩
  rw [Nat.add_mod_right, Nat.add_mod_right] at e1
  exact ⟨e1, e2⟩
theorem c_markd {Y : Nat → Nat} {σ : jj_S} {th : Int32} {η : jj_H} (h : m_rep Y σ th η) (k d : Nat) (hk : m_kok σ k) (hd : d < 4) : jj_Ht mX7_mark [.ref (Y 0), .int (nI k), .int (jj_sv 0 d), .int (jj_sv 1 d)] η 0 0 (fun w η' => w = some (.int (nI (s_nx (σ 5 (s_pa σ k)) (s_mr σ k) 0 d % σ 5 (s_pa σ k) * σ 4 (s_pa σ k) + s_nx (σ 4 (s_pa σ k)) (s_mc σ k) 1 d % σ 4 (s_pa σ k)))) ∧ η' = η) := by
  obtain ⟨k1, k2, k3, k4, k5, k6, k7, k8, k9, k10, k11, k12, k13, k14, k15⟩ := id hk
  have l : ∀ n m b, n ≤ 4 → m ≤ 11 → s_nx n m b d < 2147483648 := fun n m b hn hm => by
    unfold s_nx
    split <;> omega
  refine (c_markx h k _ _ _ _ hk ((congrArg (· + jj_sv 0 d + nI (σ 5 (s_pa σ k))) (nI_add _ _)).trans (i_nx k12.1 (by decide) hd)) ((congrArg (· + jj_sv 1 d + nI (σ 4 (s_pa σ k))) (nI_add _ _)).trans (i_nx k11.1 (by decide) hd)) (l _ _ _ k12.2 (by omega)) (l _ _ _ k11.2 (by omega))).mono ?_
  rintro w η' ⟨e1, e2⟩
  rw [mnx_mod k12, mnx_mod k11] at e1
  exact ⟨e1, e2⟩
