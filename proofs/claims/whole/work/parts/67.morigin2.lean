/-- is the side d of the place (r, c) at the plate's edge -/
def h_ed (σ : jj_S) (p r c d : Nat) : Bool := match d with
  | 0 => decide (r = 0)
  | 1 => decide (c + 1 = σ 1 p)
  | 2 => decide (r + 1 = σ 0 p)
  | _ => decide (c = 0)
def h_o (σ : jj_S) (k p r c : Nat) : Nat → Bool
  | 0 => s_shb σ p (8 * r + c) (s_flk σ k)
  | d + 1 => h_o σ k p r c d && (h_ed σ p r c d == decide (σ 10 (4 * k + d) = 0))
theorem h_bits : ∀ a0 a1 a2 a3 b0 b1 b2 b3 : Bool, ((((bif a0 then 1 else 0) ||| (bif a2 then 4 else 0)) ||| ((bif a3 then 8 else 0) ||| (bif a1 then 2 else 0))) = (((bif b0 then 1 else 0) ||| (bif b1 then 2 else 0)) ||| (bif b2 then 4 else 0)) ||| (bif b3 then 8 else 0)) ↔ ((a0 = b0 ∧ a1 = b1) ∧ a2 = b2) ∧ a3 = b3 := by decide
theorem h_bif {p : Prop} [hd : Decidable p] (a b : Nat) : (if p then a else b) = bif decide p then a else b := by
  by_cases h : p
  · rw [if_pos h, decide_eq_true h]
    rfl
  · rw [if_neg h, decide_eq_false h]
    rfl
theorem h_str (σ : jj_S) (k : Nat) : s_strn σ k 4 = (((bif decide (σ 10 (4 * k + 0) = 0) then 1 else 0) ||| (bif decide (σ 10 (4 * k + 1) = 0) then 2 else 0)) ||| (bif decide (σ 10 (4 * k + 2) = 0) then 4 else 0)) ||| (bif decide (σ 10 (4 * k + 3) = 0) then 8 else 0) := by
  have st : ∀ n, s_strn σ k (n + 1) = s_strn σ k n ||| (bif decide (σ 10 (4 * k + n) = 0) then 2 ^ n else 0) := fun n => by
    show (if σ 10 (4 * k + n) = 0 then _ else _) = _
    by_cases z : σ 10 (4 * k + n) = 0
    · rw [if_pos z, decide_eq_true z]
      rfl
    · rw [if_neg z, decide_eq_false z]
      exact (Nat.or_zero _).symm
  rw [st 3, st 2, st 1, st 0, show s_strn σ k 0 = 0 from rfl, Nat.zero_or]
theorem h_o_all {σ : jj_S} {k p r c : Nat} (hC : c < σ 1 p) : h_o σ k p r c 4 = s_lk σ p (s_flk σ k) (s_strn σ k 4) (σ 1 p * r + c) := by
  rw [Bool.eq_iff_iff]
  unfold s_lk
  rw [dm_div hC, dm_mod hC, Bool.and_eq_true, decide_eq_true_eq]
  have e1 : s_edge σ p r c = s_strn σ k 4 ↔ ((h_ed σ p r c 0 = decide (σ 10 (4 * k + 0) = 0) ∧ h_ed σ p r c 1 = decide (σ 10 (4 * k + 1) = 0)) ∧ h_ed σ p r c 2 = decide (σ 10 (4 * k + 2) = 0)) ∧ h_ed σ p r c 3 = decide (σ 10 (4 * k + 3) = 0) := by
    rw [h_str, ← h_bits]
    unfold s_edge
    rw [h_bif, h_bif, h_bif, h_bif]
    exact Iff.rfl
  rw [e1]
  show (((((s_shb σ p (8 * r + c) (s_flk σ k) && _) && _) && _) && _) = true) ↔ _
  simp only [Bool.and_eq_true, beq_iff_eq]
  constructor
  · rintro ⟨⟨⟨⟨a, b⟩, c⟩, d⟩, e⟩
    exact ⟨⟨⟨⟨b, c⟩, d⟩, e⟩, a⟩
  · rintro ⟨⟨⟨⟨b, c⟩, d⟩, e⟩, a⟩
    exact ⟨⟨⟨⟨a, b⟩, c⟩, d⟩, e⟩
theorem h_jin {σ : jj_S} {p r c d : Nat} (hr : r < σ 0 p) (hc : c < σ 1 p) (h0 : σ 0 p ≤ 8) (h1 : σ 1 p ≤ 8) (hd : d < 4) : (jin (nI r + jj_sv 0 d) (σ 0 p) && jin (nI c + jj_sv 1 d) (σ 1 p)) = !h_ed σ p r c d := by
  rcases lt4 hd with rfl | rfl | rfl | rfl
  · rw [show jj_sv 0 0 = -1 from rfl, show jj_sv 1 0 = 0 from rfl, jin_m hr h0, jin_z hc h1, Bool.and_true]
    exact decide_not
  · rw [show jj_sv 0 1 = 0 from rfl, show jj_sv 1 1 = 1 from rfl, jin_z hr h0, jin_p hc h1, Bool.true_and]
    exact decide_not
  · rw [show jj_sv 0 2 = 1 from rfl, show jj_sv 1 2 = 0 from rfl, jin_p hr h0, jin_z hc h1, Bool.and_true]
    exact decide_not
  · rw [show jj_sv 0 3 = 0 from rfl, show jj_sv 1 3 = -1 from rfl, jin_z hr h0, jin_m hc h1, Bool.true_and]
    exact decide_not
theorem c_isOrigin {Y : Nat → Nat} {σ : jj_S} {th : Int32} {η : jj_H} (h : m_rep Y σ th η) (ok : s_ok σ) (k p r c : Nat) (hk : k < σ 12 3) (hp : p < σ 12 0) (hr : r < σ 0 p) (hc : c < σ 1 p) : jj_Ht mX7_isOrigin [.ref (Y 0), .int (nI k), .int (nI p), .int (nI r), .int (nI c)] η 0 0 (fun v η' => v = some (.int (b01 (s_lk σ p (s_flk σ k) (s_strn σ k 4) (σ 1 p * r + c)))) ∧ η' = η) := by
  obtain ⟨-, -, h0, h1, h2, h3, h4, h5, h6, h7, h8, h9, h10, h11, h12⟩ := id h
  have o6 := ok.1.1
  have o40 := ok.1.2.2.2
  have hok := ok.p hp
  have hlt := hok.1
  have e4 : (nI 4).toInt = 4 := rfl
  refine jj_lp tok_X7_isOrigin zok_X7 py_7 rfl fun J run => ?_
  have loop : ∀ m d, d + m = 4 → J η 0 0 18 [(0, .ref (Y 0)), (1, .int (nI k)), (2, .int (nI p)), (3, .int (nI r)), (4, .int (nI c)), (5, .int (b01 (h_o σ k p r c d))), (6, .int (nI d))] [] := by
    intro m
    induction m with
    | zero =>
      intro d hd
      have hd : d = 4 := hd
      subst hd
      refine run [] 20 ?_
      refine ⟨fun c1 => ?_, fun c1 => absurd (cb_ge.mpr (Int.le_refl _)) c1⟩
      rw [h_o_all hc]
      exact ⟨b01_01 _, ⟨rfl, rfl⟩, Nat.zero_le _, Nat.zero_le _⟩
    | succ m ih =>
      intro d hd
      have ih := ih (d + 1) (by omega)
      rw [← nI_add] at ih
      have st : h_o σ k p r c (d + 1) = (h_o σ k p r c d && (h_ed σ p r c d == decide (σ 10 (4 * k + d) = 0))) := rfl
      have ht := (s_teeth_le ok hk (show d < 4 by omega))
      have hu := sal_pos σ (ok.m hk) d
      have hj := h_jin (d := d) hr hc hlt.2.1 hlt.2.2.2.1 (by omega)
      refine run [(18, 7)] 80 ?_
      refine ⟨fun c1 => ?_, fun c1 => ⟨fun c2 => ?_, fun c2 => ?_⟩⟩
      · rw [cb_ge, e4, iN (by omega)] at c1
        omega
      · rw [show b01 (h_o σ k p r c (d + 1)) = 0 by rw [st, b01_eq0 c2]; rfl] at ih
        exact ih
      have c2 := b01_ne0 c2
      refine ⟨_, rfl, by omega, _, rfl, by omega, _, h0, 0, 0, _, c_isPlace h p _ _ (by omega) hlt.2.1 hlt.2.2.2.1, Nat.le_refl _, Nat.le_refl _, fun v η' hv => ?_⟩
      obtain ⟨rfl, rfl⟩ := hv
      rw [hj]
      refine ⟨_, h0, _, _, 4 * k + d, h11, ix4 _ _, by omega, fun c3 => ?_, fun c3 => ?_⟩
      · rw [cb_eq, i0, iN (by omega)] at c3
        have z : decide (σ 10 (4 * k + d) = 0) = true := decide_eq_true (by omega)
        rw [st, c2, z, Bool.true_and] at ih
        cases he : h_ed σ p r c d with
        | true =>
          rw [he] at ih
          exact ⟨fun c4 => absurd rfl c4, fun c4 => ih⟩
        | false =>
          rw [he] at ih
          exact ⟨fun c4 => ih, fun c4 => absurd (show ¬ (1 : Int32) = 0 by decide) c4⟩
      · rw [cb_eq, i0, iN (by omega)] at c3
        have z : decide (σ 10 (4 * k + d) = 0) = false := decide_eq_false (by omega)
        rw [st, c2, z, Bool.true_and] at ih
        cases he : h_ed σ p r c d with
        | true =>
          rw [he] at ih
          exact ⟨fun c4 => ih, fun c4 => absurd (show ¬ (0 : Int32) = nI 1 by decide) c4⟩
        | false =>
          rw [he] at ih
          exact ⟨fun c4 => absurd rfl c4, fun c4 => ih⟩
  refine run [(18, 7)] 60 ?_
  refine ⟨_, h0, 0, 0, _, c_flawsOf h ok k hk, Nat.le_refl _, Nat.le_refl _, fun v η' hv => ?_⟩
  obtain ⟨rfl, rfl⟩ := hv
  refine ⟨_, h0, 0, 0, _, c_canHave h p r c (s_flk σ k) (by omega) hok (by omega) (by omega) (s_flk_lt ok hk), Nat.le_refl _, Nat.le_refl _, fun v η'' hv => ?_⟩
  obtain ⟨rfl, rfl⟩ := hv
  exact loop 4 0 rfl
theorem s_orn_le {σ : jj_S} (ok : s_ok σ) (k : Nat) : ∀ p, s_orn σ k p ≤ 64 * p
  | 0 => Nat.le_refl _
  | p + 1 => by
    have ih := s_orn_le ok k p
    show (if p < σ 12 0 then _ else _) ≤ _
    split
    next z =>
      have := s_lkn_64 ok z (s_flk σ k) (s_strn σ k 4)
      omega
    next z => omega
theorem s_orn_mono {σ : jj_S} (k : Nat) {p q : Nat} (h : p ≤ q) : s_orn σ k p ≤ s_orn σ k q := by
  induction q with
  | zero => rw [Nat.le_zero.mp h]; exact Nat.le_refl _
  | succ q ih =>
    rcases Nat.lt_or_ge p (q + 1) with z | z
    · refine Nat.le_trans (ih (by omega)) ?_
      show _ ≤ if q < σ 12 0 then _ else _
      split <;> omega
    · rw [show p = q + 1 by omega]
      exact Nat.le_refl _
theorem s_orn_s {σ : jj_S} (k : Nat) {p : Nat} (h : p < σ 12 0) : s_orn σ k (p + 1) = s_orn σ k p + s_lkn σ p (s_flk σ k) (s_strn σ k 4) := if_pos h
/-- what the check's walk finds: at the place q of the plate p -/
def h_wp (σ : jj_S) (k p q : Nat) : Nat := s_orn σ k p + fb_ct (s_lk σ p (s_flk σ k) (s_strn σ k 4)) q
theorem c_originOf {Y : Nat → Nat} {σ : jj_S} {th : Int32} {η : jj_H} (h : m_rep Y σ th η) (ok : s_ok σ) (k : Nat) (x : Int32) (hk : k < σ 12 3) : jj_Ht mX7_originOf [.ref (Y 0), .int (nI k), .int x] η 0 0 (fun v η' => (∃ y, v = some (.int y) ∧ (∀ i, i < 2147483648 → x = nI i → s_iso σ k i y) ∧ (x = -1 → y = nI (s_orn σ k (σ 12 0)))) ∧ η' = η) := by
  obtain ⟨-, -, h0, h1, h2, h3, h4, h5, h6, h7, h8, h9, h10, h11, h12⟩ := id h
  have o6 := ok.1.1
  refine jj_lp tok_X7_originOf zok_X7 py_7 rfl fun J run => ?_
  have inner : ∀ p, p < σ 12 0 → ((∀ i, i < 2147483648 → x = nI i → s_orn σ k (p + 1) ≤ i) → J η 0 0 5 [(0, .ref (Y 0)), (1, .int (nI k)), (2, .int x), (3, .int (nI (s_orn σ k (p + 1)))), (4, .int (nI (p + 1)))] []) → ∀ m q, q + m = σ 1 p * σ 0 p → (∀ i, i < 2147483648 → x = nI i → h_wp σ k p q ≤ i) → J η 0 0 17 [(0, .ref (Y 0)), (1, .int (nI k)), (2, .int x), (3, .int (nI (h_wp σ k p q))), (4, .int (nI p)), (5, .int (nI q))] [] := by
    intro p hp hout m
    have hlt := (ok.p hp).1
    have b64 : σ 1 p * σ 0 p ≤ 8 * 8 := Nat.mul_le_mul hlt.2.2.2.1 hlt.2.1
    have sle := s_orn_le ok k p
    have rw0 : nI (σ 0 p) * nI (σ 1 p) = nI (σ 1 p * σ 0 p) := by rw [pk_mul, Nat.mul_comm]
    induction m with
    | zero =>
      intro q hq hle
      have hq : q = σ 1 p * σ 0 p := hq
      refine run [(5, 5)] 20 ?_
      refine ⟨_, h0, _, _, p, h1, rfl, by omega, _, h0, _, _, p, h2, rfl, by omega, fun c1 => ?_, fun c1 => ?_⟩
      · have e : h_wp σ k p q = s_orn σ k (p + 1) := by
          rw [s_orn_s k hp, hq]
          rfl
        rw [e] at hle ⊢
        have hout := hout hle
        rw [← nI_add p 1] at hout
        exact hout
      · rw [rw0, cb_ge, iN (by omega), iN (by omega)] at c1
        omega
    | succ m ih =>
      intro q hq hle
      have hC : 0 < σ 1 p := by omega
      have hr : q / σ 1 p < σ 0 p := Nat.div_lt_of_lt_mul (by omega)
      have hc : q % σ 1 p < σ 1 p := Nat.mod_lt _ hC
      have dm : σ 1 p * (q / σ 1 p) + q % σ 1 p = q := Nat.div_add_mod q (σ 1 p)
      have e1 : nI q / nI (σ 1 p) = nI (q / σ 1 p) := pk_div (by omega) hC (by omega)
      have e2 : nI q - nI q / nI (σ 1 p) * nI (σ 1 p) = nI (q % σ 1 p) := pk_rem (by omega) hC (by omega)
      have co := c_isOrigin h ok k p (q / σ 1 p) (q % σ 1 p) hk hp hr hc
      rw [dm, ← e1, ← e2] at co
      have wl : h_wp σ k p q ≤ 64 * p + q := Nat.add_le_add sle (fb_ct_le _ _)
      have ws : h_wp σ k p (q + 1) = h_wp σ k p q + (if s_lk σ p (s_flk σ k) (s_strn σ k 4) q then 1 else 0) := by
        unfold h_wp
        rw [fb_ct_succ, Nat.add_assoc]
      refine run [(17, 6)] 80 ?_
      refine ⟨_, h0, _, _, p, h1, rfl, by omega, _, h0, _, _, p, h2, rfl, by omega, fun c1 => ?_, fun c1 => ?_⟩
      · rw [rw0, cb_ge, iN (by omega), iN (by omega)] at c1
        omega
      refine ⟨_, h0, _, _, p, h2, rfl, by omega, nI_ne0 hC (by omega), _, h0, _, _, p, h2, rfl, by omega, nI_ne0 hC (by omega), _, h0, 0, 0, _, co, Nat.le_refl _, Nat.le_refl _, fun v η' hv => ?_⟩
      obtain ⟨rfl, rfl⟩ := hv
      refine ⟨fun c2 => ⟨fun c3 => ?_, fun c3 => ?_⟩, fun c2 => ?_⟩
      · have c2 := b01_ne0 c2
        rw [c2, if_pos rfl] at ws
        have ih := ih (q + 1) (by omega)
        rw [ws, ← nI_add (h_wp σ k p q) 1, ← nI_add q 1] at ih
        refine ih fun i hi e => ?_
        have c3 : ¬ nI (h_wp σ k p q) = x := c3
        have := hle i hi e
        rcases Nat.lt_or_ge (h_wp σ k p q) i with z | z
        · exact z
        · exact absurd (by rw [e, show h_wp σ k p q = i by omega]) c3
      · have c2 := b01_ne0 c2
        have c3 : nI (h_wp σ k p q) = x := Classical.not_not.mp c3
        refine ⟨trivial, ⟨⟨_, rfl, fun i hi e => Or.inl ⟨p, q, hp, by omega, c2, ?_, ?_⟩, fun e => ?_⟩, rfl⟩, Nat.zero_le _, Nat.zero_le _⟩
        · rw [e, i_eq, iN (by omega), iN hi] at c3
          show h_wp σ k p q = i
          omega
        · rw [e2, e1, pk_mul, pk_mul, nI_add, nI_add]
          congr 1
          omega
        · rw [e, i_eq, iN (by omega), im1] at c3
          omega
      · have c2 := b01_eq0 (Classical.not_not.mp c2)
        rw [c2, if_neg (by decide), Nat.add_zero] at ws
        have ih := ih (q + 1) (by omega)
        rw [ws, ← nI_add q 1] at ih
        exact ih hle
  have loop : ∀ m p, p + m = σ 12 0 → (∀ i, i < 2147483648 → x = nI i → s_orn σ k p ≤ i) → J η 0 0 5 [(0, .ref (Y 0)), (1, .int (nI k)), (2, .int x), (3, .int (nI (s_orn σ k p))), (4, .int (nI p))] [] := by
    intro m
    induction m with
    | zero =>
      intro p hp hle
      have hp : p = σ 12 0 := hp
      have sle := s_orn_le ok k p
      refine run [] 20 ?_
      refine ⟨_, h0, fun c1 => ⟨fun c2 => ?_, fun c2 => ?_⟩, fun c1 => ?_⟩
      · rw [cb_ge, i0] at c2
        refine ⟨trivial, ⟨⟨_, rfl, fun i hi e => Or.inr ⟨by rw [← hp]; exact hle i hi e, rfl⟩, fun e => ?_⟩, rfl⟩, Nat.zero_le _, Nat.zero_le _⟩
        rw [e, im1] at c2
        omega
      · rw [cb_ge, i0] at c2
        refine ⟨trivial, ⟨⟨_, rfl, fun i hi e => ?_, fun e => by rw [← hp]⟩, rfl⟩, Nat.zero_le _, Nat.zero_le _⟩
        rw [e, iN hi] at c2
        omega
      · rw [cb_ge, iN (by omega), iN (by omega)] at c1
        omega
    | succ m ih =>
      intro p hp hle
      refine run [(17, 6)] 20 ?_
      refine ⟨_, h0, fun c1 => ?_, fun c1 => ?_⟩
      · rw [cb_ge, iN (by omega), iN (by omega)] at c1
        omega
      · have e : h_wp σ k p 0 = s_orn σ k p := Nat.add_zero _
        have l := inner p (by omega) (fun hle => ih (p + 1) (by omega) hle) (σ 1 p * σ 0 p) 0 (by omega)
        rw [e] at l
        exact l hle
  refine run [(5, 5)] 60 ?_
  exact loop (σ 12 0) 0 (by omega) (fun i _ _ => Nat.zero_le _)
/-- there is just one such answer -/
theorem s_iso_one {σ : jj_S} {k i : Nat} {x y : Int32} (hx : s_iso σ k i x) (hy : s_iso σ k i y) : x = y := by
  have lt : ∀ p q, p < σ 12 0 → q < σ 1 p * σ 0 p → s_lk σ p (s_flk σ k) (s_strn σ k 4) q = true → s_orn σ k p + fb_ct (s_lk σ p (s_flk σ k) (s_strn σ k 4)) q < s_orn σ k (p + 1) := by
    intro p q hp hq hl
    rw [s_orn_s k hp]
    have h1 : fb_ct (s_lk σ p (s_flk σ k) (s_strn σ k 4)) (q + 1) ≤ s_lkn σ p (s_flk σ k) (s_strn σ k 4) := fb_ct_mono _ (by omega)
    rw [fb_ct_succ, hl, if_pos rfl] at h1
    omega
  rcases hx with ⟨p, q, p1, q1, l1, e1, rfl⟩ | ⟨e1, rfl⟩
  · have l1' := lt p q p1 q1 l1
    rcases hy with ⟨p', q', p2, q2, l2, e2, rfl⟩ | ⟨e2, rfl⟩
    · have l2' := lt p' q' p2 q2 l2
      rcases Nat.lt_or_ge p p' with z | z
      · have := s_orn_mono (σ := σ) k (show p + 1 ≤ p' by omega)
        omega
      · rcases Nat.lt_or_ge p' p with z2 | z2
        · have := s_orn_mono (σ := σ) k (show p' + 1 ≤ p by omega)
          omega
        · have : p = p' := by omega
          subst this
          have : q = q' := fb_ct_kth_one l1 l2 (by omega)
          rw [this]
    · have := s_orn_mono (σ := σ) k (show p + 1 ≤ σ 12 0 by omega)
      omega
  · rcases hy with ⟨p', q', p2, q2, l2, e2, rfl⟩ | ⟨e2, rfl⟩
    · have l2' := lt p' q' p2 q2 l2
      have := s_orn_mono (σ := σ) k (show p' + 1 ≤ σ 12 0 by omega)
      omega
    · rfl
theorem m_origin_ok {Y : Nat → Nat} {σ : jj_S} {th : Int32} {η : jj_H} (h : m_rep Y σ th η) (ok : s_ok σ) (k i : Nat) (hk : k < σ 12 3) (hi : i < 2147483648) : jj_Ht mX7_origin [.ref (Y 0), .int (nI k), .int (nI i)] η 0 0 (fun v η' => ∃ y, s_iso σ k i y ∧ m_P Y η σ 0 y v η') := by
  have hn := ok.1.2.2.2
  have h' := h.th 0
  refine jj_go tok_X7_origin zok_X7 py_7 rfl 60 fun J => ?_
  refine ⟨_, h.o, _, h'.o, 0, 0, _, c_isStamp h' (nI k) hn, Nat.zero_le _, Nat.zero_le _, fun v η' hv => ?_⟩
  obtain ⟨rfl, rfl⟩ := hv
  have jk : jin (nI k) (σ 12 3) = true := by rw [jin_nI (by omega)]; exact decide_eq_true hk
  refine ⟨fun c1 => absurd (b01_eq0 c1) (by rw [jk]; decide), fun c1 => ⟨fun c2 => ?_, fun c2 => ⟨_, h'.o, 0, 0, _, c_originOf h' ok k (nI i) hk, Nat.zero_le _, Nat.zero_le _, fun v η' hv => ?_⟩⟩⟩
  · rw [cb_lt, i0, iN hi] at c2
    omega
  · obtain ⟨⟨y, rfl, hy, -⟩, rfl⟩ := hv
    exact ⟨trivial, ⟨y, hy i hi rfl, m_yes h n_fr.rf⟩, Nat.zero_le _, Nat.zero_le _⟩
theorem m_origin_x {Y : Nat → Nat} {σ : jj_S} {th : Int32} {η : jj_H} (h : m_rep Y σ th η) (ok : s_ok σ) (k i : Int32) (hj : (jin k (σ 12 3) && decide (0 ≤ i.toInt)) = false) : jj_Ht mX7_origin [.ref (Y 0), .int k, .int i] η 0 0 (m_P Y η σ (nI 1) 0) := by
  have hn := ok.1.2.2.2
  have h' := h.th 0
  have fin : ∀ t v η', m_P Y η σ t 0 v η' → ∃ x, v = some (.int x) ∧ m_P Y η σ t 0 (some (.int x)) η' := fun t v η' hv => ⟨0, hv.1, rfl, hv.2⟩
  refine jj_go tok_X7_origin zok_X7 py_7 rfl 60 fun J => ?_
  refine ⟨_, h.o, _, h'.o, 0, 0, _, c_isStamp h' k hn, Nat.zero_le _, Nat.zero_le _, fun v η' hv => ?_⟩
  obtain ⟨rfl, rfl⟩ := hv
  refine ⟨fun c1 => ⟨_, h'.o, 0, 0, _, m_fin h (nI 1), Nat.zero_le _, Nat.zero_le _, fun v η' hv => ?_⟩, fun c1 => ⟨fun c2 => ⟨_, h'.o, 0, 0, _, m_fin h (nI 1), Nat.zero_le _, Nat.zero_le _, fun v η' hv => ?_⟩, fun c2 => ?_⟩⟩
  · obtain ⟨x, rfl, hv⟩ := fin _ v η' hv
    exact ⟨trivial, hv, by decide, by decide⟩
  · obtain ⟨x, rfl, hv⟩ := fin _ v η' hv
    exact ⟨trivial, hv, by decide, by decide⟩
  · rw [cb_lt, i0] at c2
    rw [b01_ne0 c1] at hj
    simp at hj
    omega
