/-! THE FACE: A NEW FLAW -/
/-- what a place shows in some run, it shows where a flaw begins or ends, or from the start -/
theorem s_bd_shown {σ : jj_S} {p q s : Nat} : s_shown σ p q s ↔ ∃ r, s_bd σ p q (σ 2 p) r ∧ s_fl σ p q r = s := by
  constructor
  · have key : ∀ r, r < 1000 → ∃ b, s_bd σ p q (σ 2 p) b ∧ s_fl σ p q b = s_fl σ p q r := by
      intro r
      induction r with
      | zero => exact fun _ => ⟨0, Or.inl rfl, rfl⟩
      | succ r ih =>
        intro hr
        by_cases hb : s_bd σ p q (σ 2 p) (r + 1)
        · exact ⟨r + 1, hb, rfl⟩
        · obtain ⟨b, b1, b2⟩ := ih (by omega)
          refine ⟨b, b1, b2.trans ?_⟩
          have st : ∀ n, n ≤ σ 2 p → s_fln σ p q r n = s_fln σ p q (r + 1) n := by
            intro n
            induction n with
            | zero => exact fun _ => rfl
            | succ n ih2 =>
              intro hn
              have e : s_fl1 σ p q r n = s_fl1 σ p q (r + 1) n := by
                unfold s_fl1
                by_cases z : 8 * σ 3 (5 * (10 * p + n)) + σ 3 (5 * (10 * p + n) + 1) = q
                · have n1 : r + 1 ≠ σ 3 (5 * (10 * p + n) + 3) := fun e => hb (Or.inr ⟨n, by omega, z, Or.inl e, hr⟩)
                  have n2 : r + 1 ≠ σ 3 (5 * (10 * p + n) + 4) := fun e => hb (Or.inr ⟨n, by omega, z, Or.inr e, hr⟩)
                  rw [show decide (σ 3 (5 * (10 * p + n) + 3) ≤ r) = decide (σ 3 (5 * (10 * p + n) + 3) ≤ r + 1) from decide_eq_decide.mpr (by omega), show decide (r < σ 3 (5 * (10 * p + n) + 4)) = decide (r + 1 < σ 3 (5 * (10 * p + n) + 4)) from decide_eq_decide.mpr (by omega)]
                · rw [decide_eq_false z]
                  rfl
              unfold s_fln
              rw [ih2 (by omega), e]
          exact st _ (Nat.le_refl _)
    rintro ⟨r, hr, e⟩
    obtain ⟨b, b1, b2⟩ := key r hr
    exact ⟨b, b1, b2.trans e⟩
  · rintro ⟨r, hr | ⟨j, j1, j2, j3, j4⟩, e⟩
    · exact ⟨r, by omega, e⟩
    · exact ⟨r, j4, e⟩
def s_flv (r c k a b i : Nat) : Nat := match i with
  | 0 => r
  | 1 => c
  | 2 => k
  | 3 => a
  | _ => b
def s_flw (σ : jj_S) (p r c k a b : Nat) : jj_S := fun g i => bif Nat.beq g 3 && (Nat.ble (5 * (10 * p + σ 2 p)) i && Nat.blt i (5 * (10 * p + σ 2 p) + 5)) then s_flv r c k a b (i - 5 * (10 * p + σ 2 p)) else bif Nat.beq g 2 && Nat.beq i p then σ 2 p + 1 else σ g i
theorem s_flw3s (σ : jj_S) (p r c k a b : Nat) {e : Nat} (h : e < 5) : s_flw σ p r c k a b 3 (5 * (10 * p + σ 2 p) + e) = s_flv r c k a b e := by
  have e1 : Nat.ble (5 * (10 * p + σ 2 p)) (5 * (10 * p + σ 2 p) + e) = true := Nat.ble_eq_true_of_le (by omega)
  have e2 : Nat.blt (5 * (10 * p + σ 2 p) + e) (5 * (10 * p + σ 2 p) + 5) = true := Nat.ble_eq_true_of_le (by omega)
  show (bif true && (Nat.ble (5 * (10 * p + σ 2 p)) (5 * (10 * p + σ 2 p) + e) && Nat.blt (5 * (10 * p + σ 2 p) + e) (5 * (10 * p + σ 2 p) + 5)) then s_flv r c k a b (5 * (10 * p + σ 2 p) + e - 5 * (10 * p + σ 2 p)) else _) = _
  rw [e1, e2, Nat.add_sub_cancel_left]
  rfl
theorem s_flw3 (σ : jj_S) (p r c k a b : Nat) {i : Nat} (h : i < 5 * (10 * p + σ 2 p) ∨ 5 * (10 * p + σ 2 p) + 5 ≤ i) : s_flw σ p r c k a b 3 i = σ 3 i := by
  have e : (Nat.ble (5 * (10 * p + σ 2 p)) i && Nat.blt i (5 * (10 * p + σ 2 p) + 5)) = false := by
    cases h1 : Nat.ble (5 * (10 * p + σ 2 p)) i with
    | false => rfl
    | true =>
      cases h2 : Nat.blt i (5 * (10 * p + σ 2 p) + 5) with
      | false => rfl
      | true =>
        have h1 := Nat.le_of_ble_eq_true h1
        have h2 : i < 5 * (10 * p + σ 2 p) + 5 := Nat.le_of_ble_eq_true h2
        omega
  show (bif true && (Nat.ble (5 * (10 * p + σ 2 p)) i && Nat.blt i (5 * (10 * p + σ 2 p) + 5)) then _ else _) = _
  rw [e]
  rfl
theorem s_flw2s (σ : jj_S) (p r c k a b : Nat) : s_flw σ p r c k a b 2 p = σ 2 p + 1 := by
  show (bif Nat.beq p p then _ else _) = _
  rw [Nat.beq_refl]
  rfl
theorem s_flw2 (σ : jj_S) (p r c k a b : Nat) {i : Nat} (h : i ≠ p) : s_flw σ p r c k a b 2 i = σ 2 i := by
  have e : Nat.beq i p = false := by
    cases hb : Nat.beq i p with
    | false => rfl
    | true => exact absurd (Nat.eq_of_beq_eq_true hb) h
  show (bif Nat.beq i p then _ else _) = _
  rw [e]
  rfl
theorem s_flw_okp {σ : jj_S} {p r c k a b : Nat} (hok : s_okp σ p) (hn : σ 2 p < 10) (hr : r < σ 0 p) (hc : c < σ 1 p) (hk : k ≤ 4) (hab : a < b) (hb : b < 2147483648) : s_okp (s_flw σ p r c k a b) p := by
  refine ⟨⟨hok.1.1, hok.1.2.1, hok.1.2.2.1, hok.1.2.2.2.1, by rw [s_flw2s]; omega⟩, fun j hj => ?_⟩
  rw [s_flw2s] at hj
  by_cases z : j = σ 2 p
  · have e0 := s_flw3s σ p r c k a b (e := 0) (by omega)
    rw [Nat.add_zero] at e0
    rw [z, e0, s_flw3s σ p r c k a b (e := 1) (by omega), s_flw3s σ p r c k a b (e := 2) (by omega), s_flw3s σ p r c k a b (e := 3) (by omega), s_flw3s σ p r c k a b (e := 4) (by omega)]
    exact ⟨hr, hc, hk, hab, hb⟩
  · rw [s_flw3 _ _ _ _ _ _ _ (by omega), s_flw3 _ _ _ _ _ _ _ (by omega), s_flw3 _ _ _ _ _ _ _ (by omega), s_flw3 _ _ _ _ _ _ _ (by omega), s_flw3 _ _ _ _ _ _ _ (by omega)]
    exact hok.2 j (by omega)
/-- a plate's object with n flaws -/
abbrev x_po (α : Nat → Nat → Nat) (σ : jj_S) (p n : Nat) : va_E := x_o 3 [.int (nI (σ 0 p)), .int (nI (σ 1 p)), .ref (α 1 p), .int (nI n), .ref (α 2 p)]
abbrev x_fo (r c k a b : Nat) : va_E := x_o 1 [.int (nI (8 * r + c)), .int (nI k), .int (nI a), .int (nI b)]
theorem c_putFlaw {α : Nat → Nat → Nat} {σ : jj_S} {η : jj_H} {p r c k a b q : Nat} {f : Nat → Option Nat} {g : Nat → Int32} (h0 : η (α 0 p) = some (x_po α σ p (σ 2 p))) (hf : η (α 1 p) = some (x_r 7 10 f)) (hff : ∀ j, j < 10 → f j = if j < σ 2 p then some (α 3 (10 * p + j)) else none) (hg : η (α 2 p) = some (x_i 64 g))
    (h3 : ∀ j, j < σ 2 p → η (α 3 (10 * p + j)) = some (x_o 1 [.int (nI (8 * σ 3 (5 * (10 * p + j)) + σ 3 (5 * (10 * p + j) + 1))), .int (nI (σ 3 (5 * (10 * p + j) + 2))), .int (nI (σ 3 (5 * (10 * p + j) + 3))), .int (nI (σ 3 (5 * (10 * p + j) + 4)))]))
    (hq : η q = some (x_fo r c k a b)) (hok : s_okp σ p) (hn : σ 2 p < 10) (hr : r < σ 0 p) (hc : c < σ 1 p) (hk : k ≤ 4) (hab : a < b) (hb : b < 2147483648)
    (n01 : α 0 p ≠ α 1 p) (n02 : α 0 p ≠ α 2 p) (n12 : α 1 p ≠ α 2 p) (q0 : q ≠ α 0 p) (q1 : q ≠ α 1 p) (q3 : ∀ j, j < σ 2 p → α 3 (10 * p + j) ≠ α 0 p ∧ α 3 (10 * p + j) ≠ α 1 p) :
    jj_Ht mX3_putFlaw [.ref (α 0 p), .ref q] η 0 0 (fun v η' => v = some (.int (nI (σ 2 p + 1))) ∧ ∃ S : Int32, η' = jj_up (jj_up (jj_up η (α 1 p) (x_r 7 10 (va_up f (σ 2 p) (some q)))) (α 0 p) (x_po α σ p (σ 2 p + 1))) (α 2 p) (x_i 64 (upd g (8 * r + c) S)) ∧
      ∀ s, s < 32 → (S.toBitVec.getLsbD s = true ↔ ∃ x, s_bd (s_flw σ p r c k a b) p (8 * r + c) (σ 2 p + 1) x ∧ s_fl (s_flw σ p r c k a b) p (8 * r + c) x = s)) := by
  have e10 : (nI 10).toInt = 10 := rfl
  have pl : x_pl0 α σ η p := ⟨h0, ⟨f, hf, hff⟩, h3⟩
  have hlt := hok.1
  refine jj_lp tok_X3_putFlaw zok_X3 py_3 rfl fun J run => ?_
  refine run [] 80 ?_
  refine ⟨_, h0, 0, 0, _, c_isFull pl hok, Nat.zero_le _, Nat.zero_le _, fun v η' hv => ?_⟩
  obtain ⟨rfl, rfl⟩ := hv
  refine ⟨fun c1 => ?_, fun c1 => ?_⟩
  · have c1 := b01_ne0 c1
    simp at c1
    omega
  refine ⟨_, h0, _, h0, _, _, _, σ 2 p, _, hf, hq, rfl, hn, _, (up_n n01).trans h0, _, (up_n n01).trans h0, ?_⟩
  refine ⟨_, (up_n q0).trans ((up_n q1).trans hq), ?_⟩
  have e2 := s_flw2s σ p r c k a b
  have e1 : (8 * r + c) < 64 := by omega
  have A0 : a_new α 3 (10 * p + σ 2 p) q 0 p = α 0 p := a_new_n _ _ _ _ (Or.inl (by decide))
  have A1 : a_new α 3 (10 * p + σ 2 p) q 1 p = α 1 p := a_new_n _ _ _ _ (Or.inl (by decide))
  have A2 : a_new α 3 (10 * p + σ 2 p) q 2 p = α 2 p := a_new_n _ _ _ _ (Or.inl (by decide))
  have pl2 : x_pl0 (a_new α 3 (10 * p + σ 2 p) q) (s_flw σ p r c k a b) (jj_up (jj_up η' (α 1 p) (x_r 7 10 (va_up f (σ 2 p) (some q)))) (α 0 p) (x_po α σ p (σ 2 p + 1))) p := by
    refine ⟨?_, ⟨_, by rw [A1]; exact (up_n (Ne.symm n01)).trans up_s, fun j hj => ?_⟩, fun j hj => ?_⟩
    · rw [A0, A1, A2, e2]
      exact up_s
    · rw [e2]
      by_cases z : j = σ 2 p
      · rw [z, va_up_s, if_pos (by omega), a_new_s]
      · rw [va_up_n z, hff j hj, a_new_n _ _ _ _ (Or.inr (by omega))]
        by_cases y : j < σ 2 p
        · rw [if_pos y, if_pos (by omega)]
        · rw [if_neg y, if_neg (by omega)]
    · rw [e2] at hj
      by_cases z : j = σ 2 p
      · have e0 := s_flw3s σ p r c k a b (e := 0) (by omega)
        rw [Nat.add_zero] at e0
        rw [z, a_new_s, e0, s_flw3s σ p r c k a b (e := 1) (by omega), s_flw3s σ p r c k a b (e := 2) (by omega), s_flw3s σ p r c k a b (e := 3) (by omega), s_flw3s σ p r c k a b (e := 4) (by omega)]
        exact (up_n q0).trans ((up_n q1).trans hq)
      · have hj : j < σ 2 p := by omega
        rw [a_new_n _ _ _ _ (Or.inr (by omega)), s_flw3 _ _ _ _ _ _ _ (by omega), s_flw3 _ _ _ _ _ _ _ (by omega), s_flw3 _ _ _ _ _ _ _ (by omega), s_flw3 _ _ _ _ _ _ _ (by omega), s_flw3 _ _ _ _ _ _ _ (by omega)]
        exact (up_n (q3 j hj).1).trans ((up_n (q3 j hj).2).trans (h3 j hj))
  have cf := c_findShownSets pl2 (s_flw_okp hok hn hr hc hk hab hb) (8 * r + c) e1 g (by rw [A2]; exact (up_n (Ne.symm n02)).trans ((up_n (Ne.symm n12)).trans hg))
  have ex : x_po α σ p (σ 2 p + 1) = x_o 3 [.int (nI (σ 0 p)), .int (nI (σ 1 p)), .ref (α 1 p), .int (nI (σ 2 p) + nI 1), .ref (α 2 p)] := by
    rw [nI_add]
  rw [A0, A2, e2, ex] at cf
  refine ⟨_, up_s, 0, 0, _, cf, Nat.zero_le _, Nat.zero_le _, fun v η2 hv => ?_⟩
  obtain ⟨rfl, S, rfl, hS⟩ := hv
  refine ⟨_, (up_n n02).trans up_s, trivial, ⟨by rw [← nI_add (σ 2 p) 1], S, by rw [ex], hS⟩, Nat.zero_le _, Nat.zero_le _⟩
