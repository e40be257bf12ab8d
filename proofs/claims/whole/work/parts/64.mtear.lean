/-! THE CHECK's FACE: tearing -/
def t_tn (σ : jj_S) (s r c : Nat) : Nat → Bool
  | 0 => decide (σ 12 3 = 40)
  | j + 1 => t_tn σ s r c j || (decide (σ 7 j = s) && decide (σ 8 j = r) && decide (σ 9 j = c))
theorem t_tn_iff {σ : jj_S} {s r c : Nat} : ∀ n, t_tn σ s r c n = true ↔ (∃ k, k < n ∧ σ 7 k = s ∧ σ 8 k = r ∧ σ 9 k = c) ∨ σ 12 3 = 40
  | 0 => by
    show decide (σ 12 3 = 40) = true ↔ _
    rw [decide_eq_true_eq]
    constructor
    · exact Or.inr
    · rintro (⟨k, hk, -⟩ | h)
      · exact absurd hk (Nat.not_lt_zero _)
      · exact h
  | n + 1 => by
    show (t_tn σ s r c n || _) = true ↔ _
    rw [Bool.or_eq_true, t_tn_iff n, Bool.and_eq_true, Bool.and_eq_true, decide_eq_true_eq, decide_eq_true_eq, decide_eq_true_eq]
    constructor
    · rintro ((⟨k, hk, h⟩ | h) | ⟨⟨h1, h2⟩, h3⟩)
      · exact Or.inl ⟨k, by omega, h⟩
      · exact Or.inr h
      · exact Or.inl ⟨n, by omega, h1, h2, h3⟩
    · rintro (⟨k, hk, h1, h2, h3⟩ | h)
      · by_cases z : k = n
        · subst z
          exact Or.inr ⟨⟨h1, h2⟩, h3⟩
        · exact Or.inl (Or.inl ⟨k, by omega, h1, h2, h3⟩)
      · exact Or.inl (Or.inr h)
def t_s1 (σ : jj_S) (s r c : Nat) : jj_S := s_up (s_up (s_up (s_up σ 7 (σ 12 3) s) 8 (σ 12 3) r) 9 (σ 12 3) c) 11 (σ 12 3) 0
def t_sd (σ : jj_S) (s r c : Nat) : Nat → jj_S
  | 0 => t_s1 σ s r c
  | d + 1 => s_up (t_sd σ s r c d) 10 (4 * σ 12 3 + d) (s_tt σ s r c d)
theorem t_sd_g (σ : jj_S) (s r c g : Nat) (hg : Nat.beq g 10 = false) : ∀ d, t_sd σ s r c d g = t_s1 σ s r c g
  | 0 => rfl
  | d + 1 => by
    funext j
    show (bif Nat.beq g 10 && Nat.beq j _ then _ else t_sd σ s r c d g j) = _
    rw [hg]
    exact congrFun (t_sd_g σ s r c g hg d) j
theorem t_s1_7 (σ : jj_S) (s r c : Nat) : t_s1 σ s r c 7 (σ 12 3) = s := s_up_s σ 7 (σ 12 3) s
theorem t_s1_8 (σ : jj_S) (s r c : Nat) : t_s1 σ s r c 8 (σ 12 3) = r := s_up_s (s_up σ 7 (σ 12 3) s) 8 (σ 12 3) r
theorem t_s1_9 (σ : jj_S) (s r c : Nat) : t_s1 σ s r c 9 (σ 12 3) = c := s_up_s (s_up (s_up σ 7 (σ 12 3) s) 8 (σ 12 3) r) 9 (σ 12 3) c
theorem t_sd_10 (σ : jj_S) (s r c : Nat) : ∀ d e, e < d → t_sd σ s r c d 10 (4 * σ 12 3 + e) = s_tt σ s r c e
  | 0, _, h => absurd h (Nat.not_lt_zero _)
  | d + 1, e, h => by
    by_cases z : e = d
    · rw [z]
      exact s_up_s _ 10 _ _
    · exact (s_up_n _ 10 _ (show 4 * σ 12 3 + e ≠ 4 * σ 12 3 + d by omega)).trans (t_sd_10 σ s r c d e (by omega))
theorem t_sd_10o (σ : jj_S) (s r c : Nat) {j : Nat} : ∀ d, (j < 4 * σ 12 3 ∨ 4 * σ 12 3 + d ≤ j) → t_sd σ s r c d 10 j = σ 10 j
  | 0, _ => rfl
  | d + 1, h => (s_up_n _ 10 _ (show j ≠ 4 * σ 12 3 + d by omega)).trans (t_sd_10o σ s r c d (by omega))
theorem s_tea10o (σ : jj_S) (s r c : Nat) {j : Nat} (h : j < 4 * σ 12 3 ∨ 4 * σ 12 3 + 4 ≤ j) : s_tea σ s r c 10 j = σ 10 j := by
  have e : (Nat.ble (4 * σ 12 3) j && Nat.blt j (4 * σ 12 3 + 4)) = false := by
    cases h1 : Nat.ble (4 * σ 12 3) j with
    | false => rfl
    | true =>
      cases h2 : Nat.blt j (4 * σ 12 3 + 4) with
      | false => rfl
      | true =>
        have h1 := Nat.le_of_ble_eq_true h1
        have h2 : j < 4 * σ 12 3 + 4 := Nat.le_of_ble_eq_true h2
        omega
  show (bif true && (Nat.ble (4 * σ 12 3) j && Nat.blt j (4 * σ 12 3 + 4)) then _ else _) = _
  rw [e]
  rfl
theorem t_fin (σ : jj_S) (s r c : Nat) : t_sd σ s r c 4 10 = s_tea σ s r c 10 := by
  funext j
  by_cases z : j < 4 * σ 12 3 ∨ 4 * σ 12 3 + 4 ≤ j
  · rw [t_sd_10o σ s r c 4 z, s_tea10o σ s r c z]
  · obtain ⟨e, rfl⟩ : ∃ e, j = 4 * σ 12 3 + e := ⟨j - 4 * σ 12 3, by omega⟩
    rw [t_sd_10 σ s r c 4 e (by omega), s_tea10s σ s r c (by omega)]
/-- one row of the check written -/
theorem m_rep.w8 {Y : Nat → Nat} {σ : jj_S} {th : Int32} {η : jj_H} (h : m_rep Y σ th η) (i v : Nat) : m_rep Y (s_up σ 7 i v) th (jj_up η (Y 8) (x_i 40 (upd (fun j => nI (σ 7 j)) i (nI v)))) := by
  obtain ⟨d, z, h0, h1, h2, h3, h4, h5, h6, h7, h8, h9, h10, h11, h12⟩ := h
  have n : ∀ i, i < 13 → i ≠ 8 → Y i ≠ Y 8 := fun i hi hn => d i 8 hi (by decide) hn
  refine ⟨d, z, (up_n (n 0 (by decide) (by decide))).trans h0, (up_n (n 1 (by decide) (by decide))).trans h1, (up_n (n 2 (by decide) (by decide))).trans h2, (up_n (n 3 (by decide) (by decide))).trans h3, (up_n (n 4 (by decide) (by decide))).trans h4, (up_n (n 5 (by decide) (by decide))).trans h5, (up_n (n 6 (by decide) (by decide))).trans h6, (up_n (n 7 (by decide) (by decide))).trans h7, up_s.trans ?_, (up_n (n 9 (by decide) (by decide))).trans h9, (up_n (n 10 (by decide) (by decide))).trans h10, (up_n (n 11 (by decide) (by decide))).trans h11, (up_n (n 12 (by decide) (by decide))).trans h12⟩
  rw [upd_fn (g := fun j => nI (s_up σ 7 i v 7 j)) (congrArg nI (s_up_s σ 7 i v)) (fun j hj => congrArg nI (s_up_n σ 7 v hj))]
theorem m_rep.w9 {Y : Nat → Nat} {σ : jj_S} {th : Int32} {η : jj_H} (h : m_rep Y σ th η) (i v : Nat) : m_rep Y (s_up σ 8 i v) th (jj_up η (Y 9) (x_i 40 (upd (fun j => nI (σ 8 j)) i (nI v)))) := by
  obtain ⟨d, z, h0, h1, h2, h3, h4, h5, h6, h7, h8, h9, h10, h11, h12⟩ := h
  have n : ∀ i, i < 13 → i ≠ 9 → Y i ≠ Y 9 := fun i hi hn => d i 9 hi (by decide) hn
  refine ⟨d, z, (up_n (n 0 (by decide) (by decide))).trans h0, (up_n (n 1 (by decide) (by decide))).trans h1, (up_n (n 2 (by decide) (by decide))).trans h2, (up_n (n 3 (by decide) (by decide))).trans h3, (up_n (n 4 (by decide) (by decide))).trans h4, (up_n (n 5 (by decide) (by decide))).trans h5, (up_n (n 6 (by decide) (by decide))).trans h6, (up_n (n 7 (by decide) (by decide))).trans h7, (up_n (n 8 (by decide) (by decide))).trans h8, up_s.trans ?_, (up_n (n 10 (by decide) (by decide))).trans h10, (up_n (n 11 (by decide) (by decide))).trans h11, (up_n (n 12 (by decide) (by decide))).trans h12⟩
  rw [upd_fn (g := fun j => nI (s_up σ 8 i v 8 j)) (congrArg nI (s_up_s σ 8 i v)) (fun j hj => congrArg nI (s_up_n σ 8 v hj))]
theorem m_rep.w10 {Y : Nat → Nat} {σ : jj_S} {th : Int32} {η : jj_H} (h : m_rep Y σ th η) (i v : Nat) : m_rep Y (s_up σ 9 i v) th (jj_up η (Y 10) (x_i 40 (upd (fun j => nI (σ 9 j)) i (nI v)))) := by
  obtain ⟨d, z, h0, h1, h2, h3, h4, h5, h6, h7, h8, h9, h10, h11, h12⟩ := h
  have n : ∀ i, i < 13 → i ≠ 10 → Y i ≠ Y 10 := fun i hi hn => d i 10 hi (by decide) hn
  refine ⟨d, z, (up_n (n 0 (by decide) (by decide))).trans h0, (up_n (n 1 (by decide) (by decide))).trans h1, (up_n (n 2 (by decide) (by decide))).trans h2, (up_n (n 3 (by decide) (by decide))).trans h3, (up_n (n 4 (by decide) (by decide))).trans h4, (up_n (n 5 (by decide) (by decide))).trans h5, (up_n (n 6 (by decide) (by decide))).trans h6, (up_n (n 7 (by decide) (by decide))).trans h7, (up_n (n 8 (by decide) (by decide))).trans h8, (up_n (n 9 (by decide) (by decide))).trans h9, up_s.trans ?_, (up_n (n 11 (by decide) (by decide))).trans h11, (up_n (n 12 (by decide) (by decide))).trans h12⟩
  rw [upd_fn (g := fun j => nI (s_up σ 9 i v 9 j)) (congrArg nI (s_up_s σ 9 i v)) (fun j hj => congrArg nI (s_up_n σ 9 v hj))]
theorem t_kok {σ : jj_S} (ok : s_ok σ) (s r c d : Nat) (hs : s < σ 12 2) (hr : r < σ 0 (σ 6 (8 * s))) (hc : c < σ 1 (σ 6 (8 * s))) (hn : σ 12 3 < 40) : m_kok (t_sd σ s r c d) (σ 12 3) ∧ s_prt (t_sd σ s r c d 0 (s_pl (t_sd σ s r c d) (σ 12 3))) (t_sd σ s r c d 1 (s_pl (t_sd σ s r c d) (σ 12 3))) (t_sd σ s r c d 6 (8 * t_sd σ s r c d 7 (σ 12 3) + 3)) (s_all (t_sd σ s r c d) (σ 12 3) d) (t_sd σ s r c d 8 (σ 12 3)) (t_sd σ s r c d 9 (σ 12 3)) d = s_tt σ s r c d := by
  have g0 : t_sd σ s r c d 0 = σ 0 := t_sd_g σ s r c 0 rfl d
  have g1 : t_sd σ s r c d 1 = σ 1 := t_sd_g σ s r c 1 rfl d
  have g4 : t_sd σ s r c d 4 = σ 4 := t_sd_g σ s r c 4 rfl d
  have g5 : t_sd σ s r c d 5 = σ 5 := t_sd_g σ s r c 5 rfl d
  have g6 : t_sd σ s r c d 6 = σ 6 := t_sd_g σ s r c 6 rfl d
  have g7 : t_sd σ s r c d 7 (σ 12 3) = s := (congrFun (t_sd_g σ s r c 7 rfl d) _).trans (t_s1_7 σ s r c)
  have g8 : t_sd σ s r c d 8 (σ 12 3) = r := (congrFun (t_sd_g σ s r c 8 rfl d) _).trans (t_s1_8 σ s r c)
  have g9 : t_sd σ s r c d 9 (σ 12 3) = c := (congrFun (t_sd_g σ s r c 9 rfl d) _).trans (t_s1_9 σ s r c)
  have pl : s_pl (t_sd σ s r c d) (σ 12 3) = σ 6 (8 * s) := by
    unfold s_pl
    rw [g6, g7]
  have pa : s_pa (t_sd σ s r c d) (σ 12 3) = σ 6 (8 * s + 1) := by
    unfold s_pa
    rw [g6, g7]
  obtain ⟨o1, o2, o3, o4, -⟩ := ok
  obtain ⟨b1, b2, b3, b4, b5, b6, b7, b8, b9⟩ := o4 s hs
  obtain ⟨e1, e2, e3, e4⟩ := o3 _ b2
  obtain ⟨f1, f2, f3, f4, f5⟩ := (o2 _ b1).1
  refine ⟨?_, ?_⟩
  · unfold m_kok
    rw [pl, pa, g0, g1, g4, g5, g6, g7, g8, g9]
    exact ⟨hn, by omega, by omega, by omega, b7, ⟨b8, b9⟩, ⟨f1, f2⟩, ⟨f3, f4⟩, hr, hc, ⟨e1, e2⟩, ⟨e3, e4⟩, b5, b6, b3⟩
  · rw [← s_al_all, pl, g0, g1, g6, g7, g8, g9]
    rfl
theorem m_tear_lp {Y : Nat → Nat} {σ : jj_S} {th : Int32} {η : jj_H} (h : m_rep Y σ th η) (ok : s_ok σ) (s r c : Nat) (hs : s < σ 12 2) (hr : r < σ 0 (σ 6 (8 * s))) (hc : c < σ 1 (σ 6 (8 * s))) {mc ms : Nat} {post : Option Value → jj_H → Prop}
    (body : ∀ J : jj_K, jj_Rn zX7 tX7_tear mc ms post (fun _ _ => False) J → J (jj_up η (Y 0) (m_o Y σ 0)) 0 0 62 [(0, .ref (Y 0)), (1, .int (nI s)), (2, .int (nI r)), (3, .int (nI c)), (4, .int (b01 (t_tn σ s r c (σ 12 3)))), (5, .int (nI (σ 12 3)))] []) : jj_Ht mX7_tear [.ref (Y 0), .int (nI s), .int (nI r), .int (nI c)] η mc ms post := by
  have h' := h.th 0
  obtain ⟨D, -, h0, h1, h2, h3, h4, h5, h6, h7, h8, h9, h10, h11, h12⟩ := id h'
  obtain ⟨o6, o4, o10, o40⟩ := ok.1
  have b1 := (ok.2.2.2.1 s hs).1
  have r8 := (ok.2.1 _ b1).1
  have e40 : (nI 40).toInt = 40 := rfl
  have js : jin (nI s) (σ 12 2) = true := by rw [jin_nI (by omega)]; exact decide_eq_true hs
  have jrc : (jin (nI r) (σ 0 (σ 6 (8 * s))) && jin (nI c) (σ 1 (σ 6 (8 * s)))) = true := by rw [jin_nI (by omega), jin_nI (by omega), decide_eq_true hr, decide_eq_true hc]; rfl
  refine jj_lp tok_X7_tear zok_X7 py_7 rfl fun J run => ?_
  have loop : ∀ m j, j + m = σ 12 3 → J (jj_up η (Y 0) (m_o Y σ 0)) 0 0 62 [(0, .ref (Y 0)), (1, .int (nI s)), (2, .int (nI r)), (3, .int (nI c)), (4, .int (b01 (t_tn σ s r c j))), (5, .int (nI j))] [] := by
    intro m
    induction m with
    | zero =>
      intro j hj
      have hj : j = σ 12 3 := hj
      rw [hj]
      exact body J run
    | succ m ih =>
      intro j hj
      have ih := ih (j + 1) (by omega)
      rw [← nI_add] at ih
      obtain ⟨d1, d2, d3, -⟩ := ok.2.2.2.2.1 j (by omega)
      have dp := (ok.2.2.2.1 _ d1).1
      have dr := (ok.2.1 _ dp).1
      have d2 : σ 8 j < σ 0 (σ 6 (8 * σ 7 j)) := d2
      have d3 : σ 9 j < σ 1 (σ 6 (8 * σ 7 j)) := d3
      have st : t_tn σ s r c (j + 1) = (t_tn σ s r c j || (decide (σ 7 j = s) && decide (σ 8 j = r) && decide (σ 9 j = c))) := rfl
      refine run [(62, 6)] 60 ?_
      refine ⟨_, h0, fun c1 => ?_, fun c1 => ⟨fun c2 => ?_, fun c2 => ?_⟩⟩
      · rw [cb_ge, iN (by omega), iN (by omega)] at c1
        omega
      · rw [show b01 (t_tn σ s r c (j + 1)) = nI 1 by rw [st, b01_ne0 c2]; rfl] at ih
        exact ih
      · have c2 := b01_eq0 (Classical.not_not.mp c2)
        refine ⟨_, h0, _, _, j, h8, rfl, by omega, fun c3 => ?_, fun c3 => ⟨_, h0, _, _, j, h9, rfl, by omega, fun c4 => ?_, fun c4 => ⟨_, h0, _, _, j, h10, rfl, by omega, fun c5 => ?_, fun c5 => ?_⟩⟩⟩
        · rw [cb_ne, iN (by omega), iN (by omega)] at c3
          rw [show b01 (t_tn σ s r c (j + 1)) = 0 by rw [st, c2, decide_eq_false (by omega)]; rfl] at ih
          exact ih
        · rw [cb_ne, iN (by omega), iN (by omega)] at c4
          rw [show b01 (t_tn σ s r c (j + 1)) = 0 by rw [st, c2, decide_eq_false (show ¬ σ 8 j = r by omega), Bool.and_false]; rfl] at ih
          exact ih
        · rw [cb_ne, iN (by omega), iN (by omega)] at c5
          rw [show b01 (t_tn σ s r c (j + 1)) = 0 by rw [st, c2, decide_eq_false (show ¬ σ 9 j = c by omega), Bool.and_false]; rfl] at ih
          exact ih
        · rw [cb_ne, iN (by omega), iN (by omega)] at c3 c4 c5
          rw [show b01 (t_tn σ s r c (j + 1)) = nI 1 by rw [st, decide_eq_true (show σ 7 j = s by omega), decide_eq_true (show σ 8 j = r by omega), decide_eq_true (show σ 9 j = c by omega), Bool.and_true, Bool.and_true, Bool.or_true]; rfl] at ih
          exact ih
  refine run [(62, 6)] 120 ?_
  refine ⟨_, h.o, _, h0, 0, 0, _, c_isIn0 _ (nI s) _ (σ 12 2) (m_1 (by omega)), Nat.zero_le _, Nat.zero_le _, fun v η' hv => ?_⟩
  obtain ⟨rfl, rfl⟩ := hv
  refine ⟨fun c1 => absurd (b01_eq0 c1) (by rw [js]; decide), fun c1 => ⟨_, h0, _, _, 8 * s, h7, ix80 _, by omega, _, h0, 0, 0, _, c_isPlace h' (σ 6 (8 * s)) (nI r) (nI c) (by omega) (by omega) (by omega), Nat.zero_le _, Nat.zero_le _, fun v η' hv => ?_⟩⟩
  obtain ⟨rfl, rfl⟩ := hv
  refine ⟨fun c1 => ⟨_, h0, fun c2 => ?_, fun c2 => ?_⟩, fun c1 => absurd (b01_eq0 (Classical.not_not.mp c1)) (by rw [jrc]; decide)⟩
  · rw [cb_ne, e40, iN (by omega)] at c2
    have l := loop (σ 12 3) 0 (by omega)
    rw [show b01 (t_tn σ s r c 0) = 0 by rw [show t_tn σ s r c 0 = decide (σ 12 3 = 40) from rfl, decide_eq_false (by omega)]; rfl] at l
    exact l
  · rw [cb_ne, e40, iN (by omega)] at c2
    have l := loop (σ 12 3) 0 (by omega)
    rw [show b01 (t_tn σ s r c 0) = nI 1 by rw [show t_tn σ s r c 0 = decide (σ 12 3 = 40) from rfl, decide_eq_true (by omega)]; rfl] at l
    exact l
theorem m_tear_x2 {Y : Nat → Nat} {σ : jj_S} {th : Int32} {η : jj_H} (h : m_rep Y σ th η) (ok : s_ok σ) (s r c : Nat) (hs : s < σ 12 2) (hr : r < σ 0 (σ 6 (8 * s))) (hc : c < σ 1 (σ 6 (8 * s))) (hx : (∃ k, k < σ 12 3 ∧ σ 7 k = s ∧ σ 8 k = r ∧ σ 9 k = c) ∨ σ 12 3 = 40) : jj_Ht mX7_tear [.ref (Y 0), .int (nI s), .int (nI r), .int (nI c)] η 0 0 (m_P Y η σ (nI 2) 0) := by
  have h' := h.th 0
  refine m_tear_lp h ok s r c hs hr hc fun J run => ?_
  refine run [] 40 ?_
  refine ⟨_, h'.o, fun c1 => ?_, fun c1 => absurd (cb_ge.mpr (Int.le_refl _)) c1⟩
  refine ⟨fun c2 => ?_, fun c2 => ⟨_, h'.o, 0, 0, _, m_fin h (nI 2), Nat.zero_le _, Nat.zero_le _, fun v η' hv => ?_⟩⟩
  · have c2 := b01_eq0 c2
    rw [(t_tn_iff _).mpr hx] at c2
    cases c2
  · have hv2 := hv
    obtain ⟨rfl, -⟩ := hv
    exact ⟨trivial, hv2, by decide, by decide⟩
theorem m_tear_x1 {Y : Nat → Nat} {σ : jj_S} {th : Int32} {η : jj_H} (h : m_rep Y σ th η) (ok : s_ok σ) (s r c : Int32) (hj : ∀ s', s = nI s' → s' < σ 12 2 → (jin r (σ 0 (σ 6 (8 * s'))) && jin c (σ 1 (σ 6 (8 * s')))) = false) : jj_Ht mX7_tear [.ref (Y 0), .int s, .int r, .int c] η 0 0 (m_P Y η σ (nI 1) 0) := by
  have h' := h.th 0
  obtain ⟨D, -, h0, h1, h2, h3, h4, h5, h6, h7, -⟩ := id h'
  obtain ⟨o6, o4, o10, o40⟩ := ok.1
  have fin : ∀ t v η', m_P Y η σ t 0 v η' → ∃ x, v = some (.int x) ∧ m_P Y η σ t 0 (some (.int x)) η' := fun t v η' hv => ⟨0, hv.1, rfl, hv.2⟩
  refine jj_go tok_X7_tear zok_X7 py_7 rfl 60 fun J => ?_
  refine ⟨_, h.o, _, h0, 0, 0, _, c_isIn0 _ s _ (σ 12 2) (m_1 (by omega)), Nat.zero_le _, Nat.zero_le _, fun v η' hv => ?_⟩
  obtain ⟨rfl, rfl⟩ := hv
  refine ⟨fun c1 => ⟨_, h'.o, 0, 0, _, m_fin h (nI 1), Nat.zero_le _, Nat.zero_le _, fun v η' hv => ?_⟩, fun c1 => ?_⟩
  · obtain ⟨x, rfl, hv⟩ := fin _ v η' hv
    exact ⟨trivial, hv, by decide, by decide⟩
  obtain ⟨s, rfl, hs, -⟩ := jin_of (b01_ne0 c1)
  have b1 := (ok.2.2.2.1 s hs).1
  have r8 := (ok.2.1 _ b1).1
  refine ⟨_, h0, _, _, 8 * s, h7, ix80 _, by omega, _, h0, 0, 0, _, c_isPlace h' (σ 6 (8 * s)) r c (by omega) (by omega) (by omega), Nat.zero_le _, Nat.zero_le _, fun v η' hv => ?_⟩
  obtain ⟨rfl, rfl⟩ := hv
  refine ⟨fun c2 => absurd (b01_ne0 c2) (by rw [hj s rfl hs]; decide), fun c2 => ⟨_, h'.o, 0, 0, _, m_fin h (nI 1), Nat.zero_le _, Nat.zero_le _, fun v η' hv => ?_⟩⟩
  obtain ⟨x, rfl, hv⟩ := fin _ v η' hv
  exact ⟨trivial, hv, by decide, by decide⟩
