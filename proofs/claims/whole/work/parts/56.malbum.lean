/-! THE CHECK: the album -/
theorem mI_iff {m q : Nat} (hm : m ≤ 64) (hq : q < 64) : (mI m).toInt = (nI q).toInt ↔ m = q + 1 := by
  rw [iN (by omega)]
  unfold mI
  split
  next z =>
    rw [im1]
    omega
  next z =>
    rw [iN (by omega)]
    omega
theorem oI_m1 {o : Option Nat} (h : ∀ j, o = some j → j < 2147483648) : (oI o).toInt = -1 ↔ o = none := by
  cases o with
  | none => exact ⟨fun _ => rfl, fun _ => rfl⟩
  | some j =>
    have := h j rfl
    rw [show oI (some j) = nI j from rfl, iN this]
    constructor
    · intro z
      omega
    · intro z
      cases z
theorem s_at_lt {σ : jj_S} {q k : Nat} (h : s_at σ q = some k) : k < σ 12 3 := (s_at_some h).1
theorem c_mat {Y : Nat → Nat} {σ : jj_S} {th : Int32} {η : jj_H} (h : m_rep Y σ th η) (ok : s_ok σ) (q : Nat) (hq : q < 64) : jj_Ht mX7_at [.ref (Y 0), .int (nI q)] η 0 0 (fun v η' => v = some (.int (oI (s_at σ q))) ∧ η' = η) := by
  obtain ⟨-, -, h0, h1, h2, h3, h4, h5, h6, h7, h8, h9, h10, h11, h12⟩ := id h
  have hn : σ 12 3 ≤ 40 := ok.1.2.2.2
  refine jj_lp tok_X7_at zok_X7 py_7 rfl fun J run => ?_
  have loop : ∀ m j, j + m = σ 12 3 → J η 0 0 4 [(0, .ref (Y 0)), (1, .int (nI q)), (2, .int (oI (s_atn σ q j))), (3, .int (nI j))] [] := by
    intro m
    induction m with
    | zero =>
      intro j hj
      refine run [] 20 ?_
      refine ⟨_, h0, fun c1 => ?_, fun c1 => ?_⟩
      · rw [show j = σ 12 3 by omega]
        exact ⟨trivial, ⟨rfl, rfl⟩, Nat.zero_le _, Nat.zero_le _⟩
      · rw [cb_ge, iN (by omega), iN (by omega)] at c1
        omega
    | succ m ih =>
      intro j hj
      have ih := ih (j + 1) (by omega)
      rw [← nI_add] at ih
      have h64 := (ok.2.2.2.2.1 j (by omega)).2.2.2.1
      have e : s_atn σ q (j + 1) = if σ 11 j = q + 1 then some j else s_atn σ q j := rfl
      refine run [(4, 4)] 30 ?_
      refine ⟨_, h0, fun c1 => ?_, fun c1 => ?_⟩
      · rw [cb_ge, iN (by omega), iN (by omega)] at c1
        omega
      refine ⟨_, h0, _, _, j, h12, rfl, by omega, fun c2 => ?_, fun c2 => ?_⟩
      · rw [cb_ne, mI_iff h64 hq] at c2
        rw [e, if_neg c2] at ih
        exact ih
      · rw [cb_ne, mI_iff h64 hq, Classical.not_not] at c2
        rw [e, if_pos c2] at ih
        exact ih
  refine run [(4, 4)] 20 ?_
  exact loop (σ 12 3) 0 (by omega)
theorem c_matX {Y : Nat → Nat} {σ : jj_S} {th : Int32} {η : jj_H} (h : m_rep Y σ th η) (ok : s_ok σ) (x : Int32) (q : Nat) (hx : x = nI q) (hq : q < 64) : jj_Ht mX7_at [.ref (Y 0), .int x] η 0 0 (fun v η' => v = some (.int (oI (s_at σ q))) ∧ η' = η) := by
  rw [hx]
  exact c_mat h ok q hq
theorem s_bp_lt {r c d q : Nat} (hr : r < 8) (hc : c < 8) (h : s_bp r c d = some q) : q < 64 := by
  unfold s_bp at h
  split at h <;> split at h <;> first | (cases h; done) | (cases h; omega)
theorem c_beside (η : jj_H) (q d : Nat) (hq : q < 64) (hd : d < 4) : jj_Ht mX7_beside [.int (nI q), .int (nI d)] η 0 0 (fun v η' => v = some (.int (oI (s_bp (q / 8) (q % 8) d))) ∧ η' = η) := by
  have hr : q / 8 < 8 := by omega
  have hc : q % 8 < 8 := by omega
  have e1 : nI q / nI 8 = nI (q / 8) := pk_div (by omega) (by decide) (by decide)
  have e2 : nI q - nI q / nI 8 * nI 8 = nI (q % 8) := pk_rem (by omega) (by decide) (by decide)
  refine jj_go tok_X7_beside zok_X7 py_7 rfl 60 fun J => ?_
  refine ⟨by decide, d, rfl, hd, by decide, d, rfl, hd, 0, 0, _, c_isIn0 η _ (nI 7) 8 rfl, Nat.le_refl _, Nat.le_refl _, fun v η' hv => ?_⟩
  obtain ⟨rfl, rfl⟩ := hv
  rw [e2, e1]
  generalize q / 8 = r at *
  generalize q % 8 = c at *
  refine ⟨fun c1 => ?_, fun c1 => ⟨0, 0, _, c_isIn0 η' _ (nI 7) 8 rfl, Nat.le_refl _, Nat.le_refl _, fun v η'' hv => ?_⟩⟩
  · have c1 := b01_eq0 c1
    refine ⟨trivial, ⟨?_, rfl⟩, Nat.zero_le _, Nat.zero_le _⟩
    rcases lt4 hd with rfl | rfl | rfl | rfl
    · rw [show jj_sv 0 0 = -1 from rfl, jin_m hr (by decide)] at c1
      rw [show s_bp r c 0 = none from if_pos (by simpa using c1)]
      rfl
    · rw [show jj_sv 0 1 = 0 from rfl, jin_z hr (by decide)] at c1
      cases c1
    · rw [show jj_sv 0 2 = 1 from rfl, jin_p hr (by decide)] at c1
      rw [show s_bp r c 2 = none from if_pos (by simp at c1; omega)]
      rfl
    · rw [show jj_sv 0 3 = 0 from rfl, jin_z hr (by decide)] at c1
      cases c1
  · obtain ⟨rfl, rfl⟩ := hv
    have c1 := b01_ne0 c1
    refine ⟨fun c2 => ?_, fun c2 => ?_⟩
    · have c2 := b01_eq0 c2
      refine ⟨trivial, ⟨?_, rfl⟩, Nat.zero_le _, Nat.zero_le _⟩
      rcases lt4 hd with rfl | rfl | rfl | rfl
      · rw [show jj_sv 1 0 = 0 from rfl, jin_z hc (by decide)] at c2
        cases c2
      · rw [show jj_sv 1 1 = 1 from rfl, jin_p hc (by decide)] at c2
        rw [show s_bp r c 1 = none from if_pos (by simp at c2; omega)]
        rfl
      · rw [show jj_sv 1 2 = 0 from rfl, jin_z hc (by decide)] at c2
        cases c2
      · rw [show jj_sv 1 3 = -1 from rfl, jin_m hc (by decide)] at c2
        rw [show s_bp r c 3 = none from if_pos (by simpa using c2)]
        rfl
    · have c2 := b01_ne0 c2
      refine ⟨trivial, ⟨?_, rfl⟩, Nat.zero_le _, Nat.zero_le _⟩
      rcases lt4 hd with rfl | rfl | rfl | rfl
      · rw [show jj_sv 0 0 = -1 from rfl, jin_m hr (by decide)] at c1
        have c1 : r ≠ 0 := by simpa using c1
        obtain ⟨r', rfl⟩ : ∃ r', r = r' + 1 := ⟨r - 1, by omega⟩
        rw [show s_bp (r' + 1) c 0 = some (8 * r' + c) from (if_neg (by omega) : (if r' + 1 = 0 then none else some (8 * (r' + 1 - 1) + c)) = some (8 * (r' + 1 - 1) + c)), show jj_sv 0 0 = -1 from rfl, show nI (r' + 1) + (-1) = nI r' from pk_m1 r', show nI c + jj_sv 1 0 = nI c from a_z _, ix8]
        rfl
      · rw [show jj_sv 1 1 = 1 from rfl, jin_p hc (by decide)] at c2
        rw [show s_bp r c 1 = some (8 * r + (c + 1)) from if_neg (by simp at c2; omega), show nI r + jj_sv 0 1 = nI r from a_z _, show nI c + jj_sv 1 1 = nI (c + 1) from nI_1 c, ix8]
        rfl
      · rw [show jj_sv 0 2 = 1 from rfl, jin_p hr (by decide)] at c1
        rw [show s_bp r c 2 = some (8 * (r + 1) + c) from if_neg (by simp at c1; omega), show nI c + jj_sv 1 2 = nI c from a_z _, show nI r + jj_sv 0 2 = nI (r + 1) from nI_1 r, ix8]
        rfl
      · rw [show jj_sv 1 3 = -1 from rfl, jin_m hc (by decide)] at c2
        have c2 : c ≠ 0 := by simpa using c2
        obtain ⟨c', rfl⟩ : ∃ c', c = c' + 1 := ⟨c - 1, by omega⟩
        rw [show s_bp r (c' + 1) 3 = some (8 * r + c') from (if_neg (by omega) : (if c' + 1 = 0 then none else some (8 * r + (c' + 1 - 1))) = some (8 * r + (c' + 1 - 1))), show jj_sv 1 3 = -1 from rfl, show nI (c' + 1) + (-1) = nI c' from pk_m1 c', show nI r + jj_sv 0 3 = nI r from a_z _, ix8]
        rfl
theorem c_stampBeside {Y : Nat → Nat} {σ : jj_S} {th : Int32} {η : jj_H} (h : m_rep Y σ th η) (ok : s_ok σ) (q d : Nat) (hq : q < 64) (hd : d < 4) : jj_Ht mX7_stampBeside [.ref (Y 0), .int (nI q), .int (nI d)] η 0 0 (fun v η' => v = some (.int (oI (s_nb σ (q / 8) (q % 8) d))) ∧ η' = η) := by
  have hb : ∀ j, s_bp (q / 8) (q % 8) d = some j → j < 64 := fun j hj => s_bp_lt (by omega) (by omega) hj
  refine jj_go tok_X7_stampBeside zok_X7 py_7 rfl 60 fun J => ?_
  refine ⟨0, 0, _, c_beside η q d hq hd, Nat.le_refl _, Nat.le_refl _, fun v η' hv => ?_⟩
  obtain ⟨rfl, rfl⟩ := hv
  refine ⟨fun c1 => ⟨0, 0, _, c_beside η' q d hq hd, Nat.le_refl _, Nat.le_refl _, fun v η'' hv => ?_⟩, fun c1 => ?_⟩
  · obtain ⟨rfl, rfl⟩ := hv
    rw [cb_ne, im1, oI_m1 (fun j hj => by have := hb j hj; omega)] at c1
    cases hs : s_bp (q / 8) (q % 8) d with
    | none => exact absurd hs c1
    | some j =>
      refine ⟨_, h.o, 0, 0, _, c_mat h ok j (hb j hs), Nat.le_refl _, Nat.le_refl _, fun v η' hv => ?_⟩
      obtain ⟨rfl, rfl⟩ := hv
      refine ⟨trivial, ⟨?_, rfl⟩, Nat.zero_le _, Nat.zero_le _⟩
      unfold s_nb
      rw [hs]
      rfl
  · rw [cb_ne, im1, oI_m1 (fun j hj => by have := hb j hj; omega), Classical.not_not] at c1
    refine ⟨trivial, ⟨?_, rfl⟩, Nat.zero_le _, Nat.zero_le _⟩
    unfold s_nb
    rw [c1]
    rfl
theorem c_besides {Y : Nat → Nat} {σ : jj_S} {th : Int32} {η : jj_H} (h : m_rep Y σ th η) (ok : s_ok σ) (k q : Nat) (hk : k < σ 12 3) (hq : q < 64) : jj_Ht mX7_besides [.ref (Y 0), .int (nI k), .int (nI q)] η 0 0 (fun v η' => v = some (.int (oI (s_bs σ k (q / 8) (q % 8) 4))) ∧ η' = η) := by
  have hn : σ 12 3 ≤ 40 := ok.1.2.2.2
  have e4 : (nI 4).toInt = 4 := rfl
  refine jj_lp tok_X7_besides zok_X7 py_7 rfl fun J run => ?_
  have loop : ∀ m j, j + m = 4 → ∀ s, s_bs σ k (q / 8) (q % 8) j = some s → J η 0 0 5 [(0, .ref (Y 0)), (1, .int (nI k)), (2, .int (nI q)), (3, .int (nI s)), (4, .int (nI j))] [] := by
    intro m
    induction m with
    | zero =>
      intro j hj s hs
      refine run [] 20 ?_
      refine ⟨fun c1 => ?_, fun c1 => ?_⟩
      · rw [show j = 4 by omega] at hs
        refine ⟨trivial, ⟨?_, rfl⟩, Nat.zero_le _, Nat.zero_le _⟩
        rw [hs]
        rfl
      · rw [cb_ge, e4, iN (by omega)] at c1
        omega
    | succ m ih =>
      intro j hj s hs
      refine run [(5, 5)] 40 ?_
      refine ⟨fun c1 => ?_, fun c1 => ?_⟩
      · rw [cb_ge, e4, iN (by omega)] at c1
        omega
      refine ⟨_, h.o, 0, 0, _, c_stampBeside h ok q j hq (by omega), Nat.le_refl _, Nat.le_refl _, fun v η' hv => ?_⟩
      obtain ⟨rfl, rfl⟩ := hv
      have e : s_bs σ k (q / 8) (q % 8) (j + 1) = match s_nb σ (q / 8) (q % 8) j with
          | none => some s
          | some i => if s_fit σ k j i then some (s + 1) else none := by
        show (s_bs σ k (q / 8) (q % 8) j).bind _ = _
        rw [hs]
        rfl
      refine ⟨fun c2 => ?_, fun c2 => ?_⟩
      · rw [cb_ne, im1, oI_m1 (fun i hi => by have := s_nb_lt hi; omega)] at c2
        cases hb : s_nb σ (q / 8) (q % 8) j with
        | none => exact absurd hb c2
        | some i =>
          rw [hb] at e
          dsimp only at e
          refine ⟨_, h.o, 0, 0, _, c_fit h ok k j i hk (s_nb_lt hb) (by omega), Nat.le_refl _, Nat.le_refl _, fun v η'' hv => ?_⟩
          obtain ⟨rfl, rfl⟩ := hv
          refine ⟨fun c3 => ?_, fun c3 => ?_⟩
          · rw [if_pos (b01_ne0 c3)] at e
            have ih := ih (j + 1) (by omega) _ e
            rw [← nI_add, ← nI_add] at ih
            exact ih
          · rw [if_neg (by rw [b01_eq0 (Classical.not_not.mp c3)]; decide)] at e
            have e := s_bs_none e m
            rw [show j + 1 + m = 4 by omega] at e
            refine ⟨trivial, ⟨?_, rfl⟩, Nat.zero_le _, Nat.zero_le _⟩
            rw [e]
            rfl
      · rw [cb_ne, im1, oI_m1 (fun i hi => by have := s_nb_lt hi; omega), Classical.not_not] at c2
        rw [c2] at e
        have ih := ih (j + 1) (by omega) _ e
        rw [← nI_add] at ih
        exact ih
  refine run [(5, 5)] 20 ?_
  exact loop 4 0 rfl 0 rfl
