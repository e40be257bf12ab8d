/-! THE CHECK: WHAT IS COUNTED -/
def k_is (o : Option Nat) : Nat := match o with
  | none => 0
  | some _ => 1
theorem k_is_le (o : Option Nat) : k_is o ≤ 1 := by
  cases o
  · exact Nat.zero_le _
  · exact Nat.le_refl _
/-- the pairs of the place q: to its right, below it -/
def k_pq (σ : jj_S) (q : Nat) : Nat → Nat
  | 0 => 0
  | t + 1 => k_pq σ q t + k_is (s_nb σ (q / 8) (q % 8) (1 + t))
def k_pr (σ : jj_S) : Nat → Nat
  | 0 => 0
  | n + 1 => k_pr σ n + (if σ 11 n = 0 then 0 else k_pq σ (σ 11 n - 1) 2)
theorem k_pq_le (σ : jj_S) (q : Nat) : ∀ t, k_pq σ q t ≤ t
  | 0 => Nat.le_refl _
  | t + 1 => Nat.add_le_add (k_pq_le σ q t) (k_is_le _)
theorem k_pr_le (σ : jj_S) : ∀ n, k_pr σ n ≤ 2 * n
  | 0 => Nat.le_refl _
  | n + 1 => by
    have ih := k_pr_le σ n
    have := k_pq_le σ (σ 11 n - 1) 2
    show k_pr σ n + (if _ then _ else _) ≤ _
    split <;> omega
theorem mI_at {m : Nat} (h : m ≠ 0) : mI m = nI (m - 1) := if_neg h
theorem mI_m1t {m : Nat} (hm : m ≤ 64) : (mI m).toInt = (-1 : Int32).toInt ↔ m = 0 := by
  rw [← i_eq]
  exact mI_m1 hm
theorem c_pairs {Y : Nat → Nat} {σ : jj_S} {th : Int32} {η : jj_H} (h : m_rep Y σ th η) (ok : s_ok σ) : jj_Ht mX7_pairs [.ref (Y 0)] η 0 0 (fun v η' => v = some (.int (nI (k_pr σ (σ 12 3)))) ∧ η' = η) := by
  obtain ⟨-, -, h0, h1, h2, h3, h4, h5, h6, h7, h8, h9, h10, h11, h12⟩ := id h
  have o40 := ok.1.2.2.2
  have e3 : (nI 3).toInt = 3 := rfl
  refine jj_lp tok_X7_pairs zok_X7 py_7 rfl fun J run => ?_
  have inner : ∀ k, k < σ 12 3 → J η 0 0 4 [(0, .ref (Y 0)), (1, .int (nI (k_pr σ (k + 1)))), (2, .int (nI (k + 1)))] [] → σ 11 k ≠ 0 → ∀ m t, t + m = 2 → J η 0 0 14 [(0, .ref (Y 0)), (1, .int (nI (k_pr σ k + k_pq σ (σ 11 k - 1) t))), (2, .int (nI k)), (3, .int (nI (1 + t)))] [] := by
    intro k hk hout hm m
    have h64 := (ok.2.2.2.2.1 k hk).2.2.2.1
    induction m with
    | zero =>
      intro t ht
      have ht : t = 2 := ht
      subst ht
      refine run [(4, 3)] 20 ?_
      refine ⟨fun c1 => ?_, fun c1 => absurd (cb_ge.mpr (Int.le_refl _)) c1⟩
      rw [show k_pr σ (k + 1) = k_pr σ k + k_pq σ (σ 11 k - 1) 2 from congrArg (k_pr σ k + ·) (if_neg hm), ← nI_add k 1] at hout
      exact hout
    | succ m ih =>
      intro t ht
      have ih := ih (t + 1) (by omega)
      have cs := c_stampBeside h ok (σ 11 k - 1) (1 + t) (by omega) (by omega)
      rw [← mI_at hm] at cs
      rw [show k_pr σ k + k_pq σ (σ 11 k - 1) (t + 1) = k_pr σ k + k_pq σ (σ 11 k - 1) t + k_is (s_nb σ ((σ 11 k - 1) / 8) ((σ 11 k - 1) % 8) (1 + t)) from (Nat.add_assoc _ _ _).symm, ← nI_add (k_pr σ k + k_pq σ (σ 11 k - 1) t), ← Nat.add_assoc, ← nI_add (1 + t) 1] at ih
      refine run [(14, 4)] 60 ?_
      refine ⟨fun c1 => ?_, fun c1 => ?_⟩
      · rw [cb_ge, e3, iN (by omega)] at c1
        omega
      refine ⟨_, h0, _, _, k, h12, rfl, by omega, fun c2 => ?_, fun c2 => ?_⟩
      · rw [cb_eq, mI_m1t h64] at c2
        exact absurd c2 hm
      refine ⟨_, h0, _, _, k, h12, rfl, by omega, _, h0, 0, 0, _, cs, Nat.le_refl _, Nat.le_refl _, fun v η' hv => ?_⟩
      obtain ⟨rfl, rfl⟩ := hv
      refine ⟨fun c3 => ?_, fun c3 => ?_⟩
      · rw [cb_eq, im1, oI_m1 (fun j hj => by have := s_nb_lt hj; omega)] at c3
        rw [c3] at ih
        exact ih
      · rw [cb_eq, im1, oI_m1 (fun j hj => by have := s_nb_lt hj; omega)] at c3
        cases hs : s_nb σ ((σ 11 k - 1) / 8) ((σ 11 k - 1) % 8) (1 + t) with
        | none => exact absurd hs c3
        | some j =>
          rw [hs] at ih
          exact ih
  have loop : ∀ m k, k + m = σ 12 3 → J η 0 0 4 [(0, .ref (Y 0)), (1, .int (nI (k_pr σ k))), (2, .int (nI k))] [] := by
    intro m
    induction m with
    | zero =>
      intro k hk
      refine run [] 20 ?_
      refine ⟨_, h0, fun c1 => ?_, fun c1 => ?_⟩
      · rw [show k = σ 12 3 by omega]
        exact ⟨trivial, ⟨rfl, rfl⟩, Nat.zero_le _, Nat.zero_le _⟩
      · rw [cb_ge, iN (by omega), iN (by omega)] at c1
        omega
    | succ m ih =>
      intro k hk
      have ih := ih (k + 1) (by omega)
      have h64 := (ok.2.2.2.2.1 k (by omega)).2.2.2.1
      by_cases hm : σ 11 k = 0
      · refine run [(4, 3)] 30 ?_
        refine ⟨_, h0, fun c1 => ?_, fun c1 => ⟨fun c2 => absurd c2 (by rw [cb_ge]; decide), fun c2 => ⟨_, h0, _, _, k, h12, rfl, by omega, fun c3 => ?_, fun c3 => ?_⟩⟩⟩
        · rw [cb_ge, iN (by omega), iN (by omega)] at c1
          omega
        · rw [show k_pr σ (k + 1) = k_pr σ k from congrArg (k_pr σ k + ·) (if_pos hm), ← nI_add k 1] at ih
          exact ih
        · rw [cb_eq, mI_m1t h64] at c3
          exact absurd hm c3
      · refine run [(14, 4)] 30 ?_
        refine ⟨_, h0, fun c1 => ?_, fun c1 => inner k (by omega) ih hm 2 0 rfl⟩
        rw [cb_ge, iN (by omega), iN (by omega)] at c1
        omega
  refine run [(4, 3)] 20 ?_
  exact loop (σ 12 3) 0 (by omega)
/-- what is in the album: how many (what = 4), or their prices -/
def k_al (σ : jj_S) (b : Bool) : Nat → Int32
  | 0 => 0
  | n + 1 => k_al σ b n + (if σ 11 n = 0 then 0 else if b then nI 1 else s_price σ n)
theorem c_inAlbum {Y : Nat → Nat} {σ : jj_S} {th : Int32} {η : jj_H} (h : m_rep Y σ th η) (ok : s_ok σ) (w : Nat) (hw : w = 4 ∨ w = 11) : jj_Ht mX7_inAlbum [.ref (Y 0), .int (nI w)] η 0 0 (fun v η' => v = some (.int (k_al σ (decide (w = 4)) (σ 12 3))) ∧ η' = η) := by
  obtain ⟨-, -, h0, h1, h2, h3, h4, h5, h6, h7, h8, h9, h10, h11, h12⟩ := id h
  have o40 := ok.1.2.2.2
  refine jj_lp tok_X7_inAlbum zok_X7 py_7 rfl fun J run => ?_
  have loop : ∀ m k, k + m = σ 12 3 → J η 0 0 4 [(0, .ref (Y 0)), (1, .int (nI w)), (2, .int (k_al σ (decide (w = 4)) k)), (3, .int (nI k))] [] := by
    intro m
    induction m with
    | zero =>
      intro k hk
      refine run [] 20 ?_
      refine ⟨_, h0, fun c1 => ?_, fun c1 => ?_⟩
      · rw [show k = σ 12 3 by omega]
        exact ⟨trivial, ⟨rfl, rfl⟩, Nat.zero_le _, Nat.zero_le _⟩
      · rw [cb_ge, iN (by omega), iN (by omega)] at c1
        omega
    | succ m ih =>
      intro k hk
      have ih := ih (k + 1) (by omega)
      rw [← nI_add k 1] at ih
      have h64 := (ok.2.2.2.2.1 k (by omega)).2.2.2.1
      refine run [(4, 4)] 60 ?_
      refine ⟨_, h0, fun c1 => ?_, fun c1 => ⟨_, h0, _, _, k, h12, rfl, by omega, fun c2 => ⟨fun c3 => ?_, fun c3 => ?_⟩, fun c2 => ?_⟩⟩
      · rw [cb_ge, iN (by omega), iN (by omega)] at c1
        omega
      · rw [cb_ne, mI_m1t h64] at c2
        have z : ¬ w = 4 := fun e => by rw [e] at c3; exact absurd rfl c3
        rw [show k_al σ (decide (w = 4)) (k + 1) = k_al σ (decide (w = 4)) k + s_price σ k from congrArg (k_al σ (decide (w = 4)) k + ·) ((if_neg c2).trans (by rw [decide_eq_false z]; rfl))] at ih
        refine ⟨_, h0, 0, 0, _, c_mprice h ok k (by omega), Nat.le_refl _, Nat.le_refl _, fun v η' hv => ?_⟩
        obtain ⟨rfl, rfl⟩ := hv
        exact ih
      · rw [cb_ne, mI_m1t h64] at c2
        have z : w = 4 := by
          rcases hw with hw | hw
          · exact hw
          · rw [hw] at c3
            exact absurd (by show ¬ (_ = _); decide) c3
        rw [show k_al σ (decide (w = 4)) (k + 1) = k_al σ (decide (w = 4)) k + nI 1 from congrArg (k_al σ (decide (w = 4)) k + ·) ((if_neg c2).trans (by rw [decide_eq_true z]; rfl))] at ih
        exact ih
      · rw [cb_ne, mI_m1t h64, Classical.not_not] at c2
        rw [show k_al σ (decide (w = 4)) (k + 1) = k_al σ (decide (w = 4)) k + 0 from congrArg (k_al σ (decide (w = 4)) k + ·) (if_pos c2)] at ih
        exact ih
  refine run [(4, 4)] 20 ?_
  exact loop (σ 12 3) 0 (by omega)
/-- are the first n places of the rectangle at (r, c), w wide, all taken -/
def k_tkn (σ : jj_S) (r c w : Nat) : Nat → Bool
  | 0 => true
  | n + 1 => k_tkn σ r c w n && (s_at σ (8 * (r + n / w) + c + n % w)).isSome
def k_tk (σ : jj_S) (r c d w : Nat) : Bool := (decide (r + d ≤ 8) && decide (c + w ≤ 8)) && k_tkn σ r c w (d * w)
theorem k_tkn_f {σ : jj_S} {r c w n : Nat} (h : k_tkn σ r c w n = false) : ∀ m, k_tkn σ r c w (n + m) = false
  | 0 => h
  | m + 1 => by
    show (k_tkn σ r c w (n + m) && _) = false
    rw [k_tkn_f h m]
    rfl
theorem c_isTaken {Y : Nat → Nat} {σ : jj_S} {th : Int32} {η : jj_H} (h : m_rep Y σ th η) (ok : s_ok σ) (r c d w : Nat) (hr : r < 8) (hc : c < 8) (hd : 1 ≤ d ∧ d ≤ 8) (hw : 1 ≤ w ∧ w ≤ 8) : jj_Ht mX7_isTaken [.ref (Y 0), .int (nI r), .int (nI c), .int (nI d), .int (nI w)] η 0 0 (fun v η' => v = some (.int (b01 (k_tk σ r c d w))) ∧ η' = η) := by
  have h0 := h.o
  have o40 := ok.1.2.2.2
  have e8 : (nI 8).toInt = 8 := rfl
  have b64 : d * w ≤ 8 * 8 := Nat.mul_le_mul hd.2 hw.2
  have rw0 : nI d * nI w = nI (d * w) := pk_mul _ _
  refine jj_lp tok_X7_isTaken zok_X7 py_7 rfl fun J run => ?_
  by_cases hB : r + d ≤ 8 ∧ c + w ≤ 8
  · have ek : k_tk σ r c d w = k_tkn σ r c w (d * w) := by
      unfold k_tk
      rw [decide_eq_true hB.1, decide_eq_true hB.2]
      rfl
    have loop : ∀ m k, k + m = d * w → J η 0 0 27 [(0, .ref (Y 0)), (1, .int (nI r)), (2, .int (nI c)), (3, .int (nI d)), (4, .int (nI w)), (5, .int (b01 (k_tkn σ r c w k))), (6, .int (nI k))] [] := by
      intro m
      induction m with
      | zero =>
        intro k hk
        have hk : k = d * w := hk
        refine run [] 20 ?_
        refine ⟨fun c1 => ?_, fun c1 => ?_⟩
        · rw [hk, ← ek]
          exact ⟨b01_01 _, ⟨rfl, rfl⟩, Nat.zero_le _, Nat.zero_le _⟩
        · rw [rw0, cb_ge, iN (by omega), iN (by omega)] at c1
          omega
      | succ m ih =>
        intro k hk
        have ih := ih (k + 1) (by omega)
        rw [← nI_add k 1] at ih
        have hdv : k / w < d := Nat.div_lt_of_lt_mul (by rw [Nat.mul_comm]; omega)
        have hmd : k % w < w := Nat.mod_lt _ (by omega)
        refine run [(27, 7)] 60 ?_
        refine ⟨fun c1 => ?_, fun c1 => ⟨fun c2 => ?_, fun c2 => ?_⟩⟩
        · rw [rw0, cb_ge, iN (by omega), iN (by omega)] at c1
          omega
        · have f := k_tkn_f (b01_eq0 c2) (m + 1)
          rw [hk] at f
          refine ⟨b01_01 _, ⟨?_, rfl⟩, Nat.zero_le _, Nat.zero_le _⟩
          rw [b01_eq0 c2, ek, f]
        · have c2 := b01_ne0 c2
          have ix : nI 8 * (nI r + nI k / nI w) + nI c + (nI k - nI k / nI w * nI w) = nI (8 * (r + k / w) + c + k % w) := by
            rw [pk_rem (by omega) (by omega) (by omega), pk_div (by omega) (by omega) (by omega), nI_add, pk_mul, nI_add, nI_add]
          refine ⟨nI_ne0 (by omega) (by omega), nI_ne0 (by omega) (by omega), _, h0, 0, 0, _, c_matX h ok _ (8 * (r + k / w) + c + k % w) ix (by omega), Nat.le_refl _, Nat.le_refl _, fun v η' hv => ?_⟩
          obtain ⟨rfl, rfl⟩ := hv
          have st : k_tkn σ r c w (k + 1) = (s_at σ (8 * (r + k / w) + c + k % w)).isSome := by
            show (k_tkn σ r c w k && _) = _
            rw [c2, Bool.true_and]
          rw [st] at ih
          refine ⟨fun c3 => ?_, fun c3 => ?_⟩
          · rw [cb_eq, im1, oI_m1 (fun j hj => by have := s_at_lt hj; omega)] at c3
            rw [c3] at ih
            exact ih
          · rw [cb_eq, im1, oI_m1 (fun j hj => by have := s_at_lt hj; omega)] at c3
            cases hs : s_at σ (8 * (r + k / w) + c + k % w) with
            | none => exact absurd hs c3
            | some j =>
              rw [hs] at ih
              exact ih
    refine run [(27, 7)] 30 ?_
    refine ⟨fun c1 => ?_, fun c1 => ⟨fun c2 => ?_, fun c2 => loop (d * w) 0 (by omega)⟩⟩
    · rw [nI_add, cb_gt, e8, iN (by omega)] at c1
      omega
    · rw [nI_add, cb_gt, e8, iN (by omega)] at c2
      omega
  · have ek : k_tk σ r c d w = false := by
      unfold k_tk
      rw [show (decide (r + d ≤ 8) && decide (c + w ≤ 8)) = false by
        rw [Bool.and_eq_false_iff, decide_eq_false_iff_not, decide_eq_false_iff_not]
        omega]
      rfl
    have pos : 0 < d * w := Nat.mul_pos (by omega) (by omega)
    have out : J η 0 0 27 [(0, .ref (Y 0)), (1, .int (nI r)), (2, .int (nI c)), (3, .int (nI d)), (4, .int (nI w)), (5, .int 0), (6, .int 0)] [] := by
      refine run [] 20 ?_
      refine ⟨fun c1 => ?_, fun c1 => ⟨fun c2 => ⟨Or.inl rfl, ⟨by rw [ek]; rfl, rfl⟩, Nat.zero_le _, Nat.zero_le _⟩, fun c2 => absurd rfl c2⟩⟩
      exact ⟨Or.inl rfl, ⟨by rw [ek]; rfl, rfl⟩, Nat.zero_le _, Nat.zero_le _⟩
    refine run [(27, 7)] 30 ?_
    refine ⟨fun c1 => out, fun c1 => ⟨fun c2 => out, fun c2 => ?_⟩⟩
    rw [nI_add, cb_gt, e8, iN (by omega)] at c1
    rw [nI_add, cb_gt, e8, iN (by omega)] at c2
    omega
