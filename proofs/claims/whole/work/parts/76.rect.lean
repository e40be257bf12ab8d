/-! BOTH SIDES FIND THE SAME RECTANGLE -/
/-- a rectangle of d rows and w columns at (r, c), all taken -/
def qR (t r c d w : Nat) : Prop := (1 ≤ d ∧ 1 ≤ w ∧ r + d ≤ 8 ∧ c + w ≤ 8) ∧ ∀ i j, i < d → j < w → t.testBit (8 * (r + i) + (c + j)) = true
def ls_ok (x w : Nat) : Bool := (List.range 8).any fun c => decide (c + w ≤ 8) && (List.range w).all fun j => x.testBit (c + j)
theorem ls_iff {x w : Nat} : ls_ok x w = true ↔ ∃ c, c < 8 ∧ c + w ≤ 8 ∧ ∀ j, j < w → x.testBit (c + j) = true := by
  unfold ls_ok
  simp only [List.any_eq_true, List.mem_range, Bool.and_eq_true, decide_eq_true_eq, List.all_eq_true]
theorem ls_all : ∀ x, x < 256 → ∀ w, w < 9 → 1 ≤ w → (w ≤ b_ls 8 x ↔ ls_ok x w = true) := by decide +kernel
theorem cm_bit {t r c : Nat} (hc : c < 8) : ∀ d, (b_cm t r d).testBit c = true ↔ ∀ i, i < d → t.testBit (8 * (r + i) + c) = true
  | 0 => ⟨fun _ i hi => absurd hi (Nat.not_lt_zero _), fun _ => by
    show (255 : Nat).testBit c = true
    rcases (show c = 0 ∨ c = 1 ∨ c = 2 ∨ c = 3 ∨ c = 4 ∨ c = 5 ∨ c = 6 ∨ c = 7 by omega) with rfl | rfl | rfl | rfl | rfl | rfl | rfl | rfl <;> decide⟩
  | d + 1 => by
    show (b_cm t r d &&& (t / 2 ^ (8 * (r + d)))).testBit c = true ↔ _
    rw [Nat.testBit_and, Nat.testBit_div_two_pow, Bool.and_eq_true, cm_bit hc d, Nat.add_comm c]
    constructor
    · rintro ⟨h1, h2⟩ i hi
      by_cases z : i = d
      · rw [z]
        exact h2
      · exact h1 i (by omega)
    · intro h
      exact ⟨fun i hi => h i (by omega), h d (by omega)⟩
theorem rw_spec (t top m : Nat) : ∀ n, (m ≤ b_rw t top m n) ∧ (∀ k, k < n → (k + 1) * b_ls 8 (b_cm t top (k + 1)) ≤ b_rw t top m n) ∧ (b_rw t top m n = m ∨ ∃ k, k < n ∧ b_rw t top m n = (k + 1) * b_ls 8 (b_cm t top (k + 1)))
  | 0 => ⟨Nat.le_refl _, fun k hk => absurd hk (Nat.not_lt_zero _), Or.inl rfl⟩
  | n + 1 => by
    obtain ⟨i0, i1, i2⟩ := rw_spec t top m n
    have st : b_rw t top m (n + 1) = max (b_rw t top m n) ((n + 1) * b_ls 8 (b_cm t top (n + 1))) := rfl
    rw [st]
    refine ⟨Nat.le_trans i0 (Nat.le_max_left _ _), fun k hk => ?_, ?_⟩
    · by_cases z : k = n
      · rw [z]
        exact Nat.le_max_right _ _
      · exact Nat.le_trans (i1 k (by omega)) (Nat.le_max_left _ _)
    · rcases Nat.le_total (b_rw t top m n) ((n + 1) * b_ls 8 (b_cm t top (n + 1))) with z | z
      · rw [Nat.max_eq_right z]
        exact Or.inr ⟨n, by omega, rfl⟩
      · rw [Nat.max_eq_left z]
        rcases i2 with i2 | ⟨k, k1, k2⟩
        · exact Or.inl i2
        · exact Or.inr ⟨k, by omega, k2⟩
theorem rc_spec (t : Nat) : ∀ n, (∀ r k, r < n → k < 8 - r → (k + 1) * b_ls 8 (b_cm t r (k + 1)) ≤ b_rc t n) ∧ (b_rc t n = 0 ∨ ∃ r k, r < n ∧ k < 8 - r ∧ b_rc t n = (k + 1) * b_ls 8 (b_cm t r (k + 1)))
  | 0 => ⟨fun r k hr => absurd hr (Nat.not_lt_zero _), Or.inl rfl⟩
  | n + 1 => by
    obtain ⟨i1, i2⟩ := rc_spec t n
    obtain ⟨j0, j1, j2⟩ := rw_spec t n (b_rc t n) (8 - n)
    have st : b_rc t (n + 1) = b_rw t n (b_rc t n) (8 - n) := rfl
    rw [st]
    refine ⟨fun r k hr hk => ?_, ?_⟩
    · by_cases z : r = n
      · subst z
        exact j1 k hk
      · exact Nat.le_trans (i1 r k (by omega) hk) j0
    · rcases j2 with j2 | ⟨k, k1, k2⟩
      · rw [j2]
        rcases i2 with i2 | ⟨r, k, h1, h2, h3⟩
        · exact Or.inl i2
        · exact Or.inr ⟨r, k, by omega, h2, h3⟩
      · exact Or.inr ⟨n, k, by omega, k1, k2⟩
theorem rc_qR (t : Nat) : (∀ r c d w, qR t r c d w → d * w ≤ b_rc t 8) ∧ (b_rc t 8 = 0 ∨ ∃ r c d w, qR t r c d w ∧ b_rc t 8 = d * w) := by
  obtain ⟨h1, h2⟩ := rc_spec t 8
  have cl : ∀ r d, b_cm t r d < 256 := fun r d => Nat.lt_succ_of_le (b_cm_lt t r d)
  refine ⟨fun r c d w ⟨⟨q1, q2, q3, q4⟩, q5⟩ => ?_, ?_⟩
  · obtain ⟨d, rfl⟩ : ∃ d', d = d' + 1 := ⟨d - 1, by omega⟩
    refine Nat.le_trans (Nat.mul_le_mul_left _ ?_) (h1 r d (by omega) (by omega))
    refine (ls_all _ (cl r (d + 1)) w (by omega) q2).mpr (ls_iff.mpr ⟨c, by omega, q4, fun j hj => (cm_bit (by omega) (d + 1)).mpr fun i hi => q5 i j hi hj⟩)
  · rcases h2 with h2 | ⟨r, k, k1, k2, k3⟩
    · exact Or.inl h2
    · by_cases z : b_ls 8 (b_cm t r (k + 1)) = 0
      · rw [z, Nat.mul_zero] at k3
        exact Or.inl k3
      · have l8 := b_ls_le 8 (b_cm t r (k + 1))
        obtain ⟨c, c1, c2, c3⟩ := ls_iff.mp ((ls_all _ (cl r (k + 1)) (b_ls 8 (b_cm t r (k + 1))) (by omega) (by omega)).mp (Nat.le_refl _))
        exact Or.inr ⟨r, c, k + 1, _, ⟨⟨by omega, by omega, by omega, c2⟩, fun i j hi hj => (cm_bit (by omega) (k + 1)).mp (c3 j hj) i hi⟩, k3⟩
theorem tkn_iff {σ : jj_S} {r c w : Nat} : ∀ n, k_tkn σ r c w n = true ↔ ∀ x, x < n → (s_at σ (8 * (r + x / w) + c + x % w)).isSome = true
  | 0 => ⟨fun _ x hx => absurd hx (Nat.not_lt_zero _), fun _ => rfl⟩
  | n + 1 => by
    show (k_tkn σ r c w n && _) = true ↔ _
    rw [Bool.and_eq_true, tkn_iff n]
    constructor
    · rintro ⟨h1, h2⟩ x hx
      by_cases z : x = n
      · rw [z]
        exact h2
      · exact h1 x (by omega)
    · intro h
      exact ⟨fun x hx => h x (by omega), h n (by omega)⟩
theorem tk_qR {σ : jj_S} {r c d w : Nat} (hd : 1 ≤ d) (hw : 1 ≤ w) : k_tk σ r c d w = true ↔ qR (b_tk σ) r c d w := by
  unfold k_tk qR
  rw [Bool.and_eq_true, Bool.and_eq_true, decide_eq_true_eq, decide_eq_true_eq, tkn_iff]
  constructor
  · rintro ⟨⟨h1, h2⟩, h3⟩
    refine ⟨⟨hd, hw, h1, h2⟩, fun i j hi hj => ?_⟩
    have := h3 (i * w + j) (by
      have : (i + 1) * w ≤ d * w := Nat.mul_le_mul_right w hi
      rw [Nat.add_mul] at this
      omega)
    rw [show (i * w + j) / w = i by rw [Nat.mul_comm]; exact dm_div hj, show (i * w + j) % w = j by rw [Nat.mul_comm]; exact dm_mod hj] at this
    rw [b_tk_bit σ (by omega), ← this, Nat.add_assoc]
  · rintro ⟨⟨_, _, h1, h2⟩, h3⟩
    refine ⟨⟨h1, h2⟩, fun x hx => ?_⟩
    have hi : x / w < d := Nat.div_lt_of_lt_mul (by rw [Nat.mul_comm]; exact hx)
    have hj : x % w < w := Nat.mod_lt _ hw
    have := h3 (x / w) (x % w) hi hj
    rw [b_tk_bit σ (by omega)] at this
    rw [Nat.add_assoc]
    exact this
theorem krw_spec {σ : jj_S} {r c d m : Nat} : ∀ n, (m ≤ k_rw σ r c d m n) ∧ (∀ k, k < n → k_tk σ r c d (k + 1) = true → d * (k + 1) ≤ k_rw σ r c d m n) ∧ (k_rw σ r c d m n = m ∨ ∃ k, k < n ∧ k_tk σ r c d (k + 1) = true ∧ k_rw σ r c d m n = d * (k + 1))
  | 0 => ⟨Nat.le_refl _, fun k hk => absurd hk (Nat.not_lt_zero _), Or.inl rfl⟩
  | n + 1 => by
    obtain ⟨i0, i1, i2⟩ := krw_spec (σ := σ) (r := r) (c := c) (d := d) (m := m) n
    have st : k_rw σ r c d m (n + 1) = if k_rw σ r c d m n < d * (n + 1) ∧ k_tk σ r c d (n + 1) = true then d * (n + 1) else k_rw σ r c d m n := rfl
    rw [st]
    split
    next z =>
      refine ⟨by omega, fun k hk ht => ?_, Or.inr ⟨n, by omega, z.2, rfl⟩⟩
      by_cases y : k = n
      · rw [y]
        exact Nat.le_refl _
      · have := i1 k (by omega) ht
        omega
    next z =>
      refine ⟨i0, fun k hk ht => ?_, ?_⟩
      · by_cases y : k = n
        · subst y
          have : ¬ k_rw σ r c d m k < d * (k + 1) := fun e => z ⟨e, ht⟩
          omega
        · exact i1 k (by omega) ht
      · rcases i2 with i2 | ⟨k, k1, k2⟩
        · exact Or.inl i2
        · exact Or.inr ⟨k, by omega, k2⟩
theorem krd_spec {σ : jj_S} {r c m : Nat} : ∀ n, (m ≤ k_rd σ r c m n) ∧ (∀ d w, d < n → w < 8 → k_tk σ r c (d + 1) (w + 1) = true → (d + 1) * (w + 1) ≤ k_rd σ r c m n) ∧ (k_rd σ r c m n = m ∨ ∃ d w, d < n ∧ w < 8 ∧ k_tk σ r c (d + 1) (w + 1) = true ∧ k_rd σ r c m n = (d + 1) * (w + 1))
  | 0 => ⟨Nat.le_refl _, fun d w hd => absurd hd (Nat.not_lt_zero _), Or.inl rfl⟩
  | n + 1 => by
    obtain ⟨i0, i1, i2⟩ := krd_spec (σ := σ) (r := r) (c := c) (m := m) n
    obtain ⟨j0, j1, j2⟩ := krw_spec (σ := σ) (r := r) (c := c) (d := n + 1) (m := k_rd σ r c m n) 8
    have st : k_rd σ r c m (n + 1) = k_rw σ r c (n + 1) (k_rd σ r c m n) 8 := rfl
    rw [st]
    refine ⟨Nat.le_trans i0 j0, fun d w hd hw ht => ?_, ?_⟩
    · by_cases z : d = n
      · subst z
        exact j1 w hw ht
      · exact Nat.le_trans (i1 d w (by omega) hw ht) j0
    · rcases j2 with j2 | ⟨w, w1, w2, w3⟩
      · rw [j2]
        rcases i2 with i2 | ⟨d, w, h1, h2⟩
        · exact Or.inl i2
        · exact Or.inr ⟨d, w, by omega, h2⟩
      · exact Or.inr ⟨n, w, by omega, w1, w2, w3⟩
theorem krt_spec {σ : jj_S} : ∀ n, (∀ k d w, k < n → σ 11 k ≠ 0 → d < 8 → w < 8 → k_tk σ ((σ 11 k - 1) / 8) ((σ 11 k - 1) % 8) (d + 1) (w + 1) = true → (d + 1) * (w + 1) ≤ k_rt σ n) ∧ (k_rt σ n = 0 ∨ ∃ k d w, k < n ∧ d < 8 ∧ w < 8 ∧ k_tk σ ((σ 11 k - 1) / 8) ((σ 11 k - 1) % 8) (d + 1) (w + 1) = true ∧ k_rt σ n = (d + 1) * (w + 1))
  | 0 => ⟨fun k d w hk => absurd hk (Nat.not_lt_zero _), Or.inl rfl⟩
  | n + 1 => by
    obtain ⟨i1, i2⟩ := krt_spec (σ := σ) n
    obtain ⟨j0, j1, j2⟩ := krd_spec (σ := σ) (r := (σ 11 n - 1) / 8) (c := (σ 11 n - 1) % 8) (m := k_rt σ n) 8
    have st : k_rt σ (n + 1) = if σ 11 n = 0 then k_rt σ n else k_rd σ ((σ 11 n - 1) / 8) ((σ 11 n - 1) % 8) (k_rt σ n) 8 := rfl
    rw [st]
    split
    next z =>
      refine ⟨fun k d w hk hm hd hw ht => ?_, ?_⟩
      · by_cases y : k = n
        · rw [y] at hm
          exact absurd z hm
        · exact i1 k d w (by omega) hm hd hw ht
      · rcases i2 with i2 | ⟨k, d, w, h1, h2⟩
        · exact Or.inl i2
        · exact Or.inr ⟨k, d, w, by omega, h2⟩
    next z =>
      refine ⟨fun k d w hk hm hd hw ht => ?_, ?_⟩
      · by_cases y : k = n
        · subst y
          exact j1 d w hd hw ht
        · exact Nat.le_trans (i1 k d w (by omega) hm hd hw ht) j0
      · rcases j2 with j2 | ⟨d, w, h1, h2, h3, h4⟩
        · rw [j2]
          rcases i2 with i2 | ⟨k, d, w, h1, h2⟩
          · exact Or.inl i2
          · exact Or.inr ⟨k, d, w, by omega, h2⟩
        · exact Or.inr ⟨n, d, w, by omega, h1, h2, h3, h4⟩
theorem e_8 {σ : jj_S} (ok : s_ok σ) : b_rc (b_tk σ) 8 = k_rt σ (σ 12 3) := by
  obtain ⟨l1, l2⟩ := rc_qR (b_tk σ)
  obtain ⟨m1, m2⟩ := krt_spec (σ := σ) (σ 12 3)
  apply Nat.le_antisymm
  · rcases l2 with l2 | ⟨r, c, d, w, q, e⟩
    · rw [l2]
      exact Nat.zero_le _
    · rw [e]
      obtain ⟨⟨q1, q2, q3, q4⟩, q5⟩ := id q
      have t0 := q5 0 0 (by omega) (by omega)
      rw [Nat.add_zero, Nat.add_zero] at t0
      obtain ⟨k, hk⟩ := (tk_bit σ (by omega)).mp t0
      obtain ⟨k1, k2⟩ := s_at_some hk
      have h := (tk_qR (σ := σ) q1 q2).mpr q
      have := m1 k (d - 1) (w - 1) k1 (by omega) (by omega) (by omega)
      rw [k2, show 8 * r + c + 1 - 1 = 8 * r + c by omega, show (8 * r + c) / 8 = r by omega, show (8 * r + c) % 8 = c by omega, show d - 1 + 1 = d by omega, show w - 1 + 1 = w by omega] at this
      exact this h
  · rcases m2 with m2 | ⟨k, d, w, k1, k2, k3, k4, k5⟩
    · rw [m2]
      exact Nat.zero_le _
    · rw [k5]
      exact l1 _ _ _ _ ((tk_qR (by omega) (by omega)).mp k4)
