def k_bl (σ : jj_S) : Nat → Nat
  | 0 => 0
  | n + 1 => k_bl σ n + (if σ 11 n = 0 then 0 else if k_tk σ ((σ 11 n - 1) / 8) ((σ 11 n - 1) % 8) 2 2 then 1 else 0)
theorem mI_dv {m : Nat} (h : m ≠ 0) (h64 : m ≤ 64) : nI ((m - 1) / 8) = mI m / nI 8 := by rw [mI_at h, pk_div (by omega) (by decide) (by decide)]
theorem mI_md {m : Nat} (h : m ≠ 0) (h64 : m ≤ 64) : nI ((m - 1) % 8) = mI m - mI m / nI 8 * nI 8 := by rw [mI_at h, pk_rem (by omega) (by decide) (by decide)]
theorem c_mblocks {Y : Nat → Nat} {σ : jj_S} {th : Int32} {η : jj_H} (h : m_rep Y σ th η) (ok : s_ok σ) : jj_Ht mX7_blocks [.ref (Y 0)] η 0 0 (fun v η' => v = some (.int (nI (k_bl σ (σ 12 3)))) ∧ η' = η) := by
  obtain ⟨-, -, h0, h1, h2, h3, h4, h5, h6, h7, h8, h9, h10, h11, h12⟩ := id h
  have o40 := ok.1.2.2.2
  refine jj_lp tok_X7_blocks zok_X7 py_7 rfl fun J run => ?_
  have loop : ∀ m k, k + m = σ 12 3 → J η 0 0 4 [(0, .ref (Y 0)), (1, .int (nI (k_bl σ k))), (2, .int (nI k))] [] := by
    intro m
    induction m with
    | zero =>
      intro k hk
      refine run [] 20 ?_
      refine ⟨_, h0, fun c1 => ?_, fun c1 => ?_⟩
      · rw [show k = σ 12 3 by omega]
        exact ⟨trivial, ⟨rfl, rfl⟩, Nat.zero_le _, Nat.zero_le _⟩
      · rw [cb_ge, iN (by omega), iN (by omega)] at c1
        omega
    | succ m ih =>
      intro k hk
      have ih := ih (k + 1) (by omega)
      rw [← nI_add k 1] at ih
      have h64 := (ok.2.2.2.2.1 k (by omega)).2.2.2.1
      refine run [(4, 3)] 60 ?_
      refine ⟨_, h0, fun c1 => ?_, fun c1 => ⟨_, h0, _, _, k, h12, rfl, by omega, fun c2 => ?_, fun c2 => ?_⟩⟩
      · rw [cb_ge, iN (by omega), iN (by omega)] at c1
        omega
      · rw [cb_eq, mI_m1t h64] at c2
        rw [show k_bl σ (k + 1) = k_bl σ k + 0 from congrArg (k_bl σ k + ·) (if_pos c2), ← nI_add (k_bl σ k)] at ih
        exact ih
      · rw [cb_eq, mI_m1t h64] at c2
        have cs := c_isTaken h ok ((σ 11 k - 1) / 8) ((σ 11 k - 1) % 8) 2 2 (by omega) (by omega) (by decide) (by decide)
        rw [mI_dv c2 h64, mI_md c2 h64] at cs
        refine ⟨_, h0, _, _, k, h12, rfl, by omega, by decide, _, h0, _, _, k, h12, rfl, by omega, by decide, _, h0, 0, 0, _, cs, Nat.le_refl _, Nat.le_refl _, fun v η' hv => ?_⟩
        obtain ⟨rfl, rfl⟩ := hv
        refine ⟨fun c3 => ?_, fun c3 => ?_⟩
        · rw [show k_bl σ (k + 1) = k_bl σ k + 0 from congrArg (k_bl σ k + ·) ((if_neg c2).trans (if_neg (by rw [b01_eq0 c3]; decide))), ← nI_add (k_bl σ k)] at ih
          exact ih
        · rw [show k_bl σ (k + 1) = k_bl σ k + 1 from congrArg (k_bl σ k + ·) ((if_neg c2).trans (if_pos (b01_ne0 c3))), ← nI_add (k_bl σ k)] at ih
          exact ih
  refine run [(4, 3)] 20 ?_
  exact loop (σ 12 3) 0 (by omega)
/-- the largest rectangle so far -/
def k_rw (σ : jj_S) (r c d m : Nat) : Nat → Nat
  | 0 => m
  | t + 1 => if k_rw σ r c d m t < d * (t + 1) ∧ k_tk σ r c d (t + 1) = true then d * (t + 1) else k_rw σ r c d m t
def k_rd (σ : jj_S) (r c m : Nat) : Nat → Nat
  | 0 => m
  | t + 1 => k_rw σ r c (t + 1) (k_rd σ r c m t) 8
def k_rt (σ : jj_S) : Nat → Nat
  | 0 => 0
  | n + 1 => if σ 11 n = 0 then k_rt σ n else k_rd σ ((σ 11 n - 1) / 8) ((σ 11 n - 1) % 8) (k_rt σ n) 8
theorem k_rw_le {σ : jj_S} {r c d m : Nat} (hm : m ≤ 64) (hd : d ≤ 8) : ∀ t, t ≤ 8 → k_rw σ r c d m t ≤ 64
  | 0, _ => hm
  | t + 1, ht => by
    have ih := k_rw_le (σ := σ) (r := r) (c := c) hm hd t (by omega)
    have := Nat.mul_le_mul hd ht
    unfold k_rw
    split <;> omega
theorem k_rd_le {σ : jj_S} {r c m : Nat} (hm : m ≤ 64) : ∀ t, t ≤ 8 → k_rd σ r c m t ≤ 64
  | 0, _ => hm
  | t + 1, ht => k_rw_le (k_rd_le hm t (by omega)) ht 8 (by decide)
theorem k_rt_le (σ : jj_S) : ∀ n, k_rt σ n ≤ 64
  | 0 => Nat.zero_le 64
  | n + 1 => by
    have ih := k_rt_le σ n
    show (if _ then _ else _) ≤ 64
    split
    · exact ih
    · exact k_rd_le ih 8 (by decide)
theorem c_rectangle {Y : Nat → Nat} {σ : jj_S} {th : Int32} {η : jj_H} (h : m_rep Y σ th η) (ok : s_ok σ) : jj_Ht mX7_rectangle [.ref (Y 0)] η 0 0 (fun v η' => v = some (.int (nI (k_rt σ (σ 12 3)))) ∧ η' = η) := by
  obtain ⟨-, -, h0, h1, h2, h3, h4, h5, h6, h7, h8, h9, h10, h11, h12⟩ := id h
  have o40 := ok.1.2.2.2
  have e8 : (nI 8).toInt = 8 := rfl
  refine jj_lp tok_X7_rectangle zok_X7 py_7 rfl fun J run => ?_
  have inner : ∀ k, k < σ 12 3 → σ 11 k ≠ 0 → ∀ d M, 1 ≤ d → d ≤ 8 → M ≤ 64 → J η 0 0 27 [(0, .ref (Y 0)), (1, .int (nI (k_rw σ ((σ 11 k - 1) / 8) ((σ 11 k - 1) % 8) d M 8))), (2, .int (nI k)), (3, .int (nI (d + 1)))] [] → ∀ m t, t + m = 8 → J η 0 0 36 [(0, .ref (Y 0)), (1, .int (nI (k_rw σ ((σ 11 k - 1) / 8) ((σ 11 k - 1) % 8) d M t))), (2, .int (nI k)), (3, .int (nI d)), (4, .int (nI (t + 1)))] [] := by
    intro k hk hm d M hd1 hd8 hM hout m
    have h64 := (ok.2.2.2.2.1 k hk).2.2.2.1
    induction m with
    | zero =>
      intro t ht
      have ht : t = 8 := ht
      subst ht
      refine run [(27, 4)] 20 ?_
      refine ⟨fun c1 => ?_, fun c1 => ?_⟩
      · rw [← nI_add d 1] at hout
        exact hout
      · rw [cb_gt, e8, iN (by omega)] at c1
        omega
    | succ m ih =>
      intro t ht
      have ih := ih (t + 1) (by omega)
      rw [← nI_add (t + 1) 1] at ih
      have kl := k_rw_le (σ := σ) (r := (σ 11 k - 1) / 8) (c := (σ 11 k - 1) % 8) hM hd8 t (by omega)
      have dt := Nat.mul_le_mul hd8 (show t + 1 ≤ 8 by omega)
      have cs := c_isTaken h ok ((σ 11 k - 1) / 8) ((σ 11 k - 1) % 8) d (t + 1) (by omega) (by omega) ⟨hd1, hd8⟩ ⟨by omega, by omega⟩
      rw [mI_dv hm h64, mI_md hm h64] at cs
      have st : k_rw σ ((σ 11 k - 1) / 8) ((σ 11 k - 1) % 8) d M (t + 1) = if k_rw σ ((σ 11 k - 1) / 8) ((σ 11 k - 1) % 8) d M t < d * (t + 1) ∧ k_tk σ ((σ 11 k - 1) / 8) ((σ 11 k - 1) % 8) d (t + 1) = true then d * (t + 1) else k_rw σ ((σ 11 k - 1) / 8) ((σ 11 k - 1) % 8) d M t := rfl
      refine run [(36, 5)] 60 ?_
      refine ⟨fun c1 => ?_, fun c1 => ⟨fun c2 => ?_, fun c2 => ?_⟩⟩
      · rw [cb_gt, e8, iN (by omega)] at c1
        omega
      · rw [pk_mul, cb_le, iN (by omega), iN (by omega)] at c2
        rw [st, if_neg (by omega)] at ih
        exact ih
      · rw [pk_mul, cb_le, iN (by omega), iN (by omega)] at c2
        refine ⟨_, h0, _, _, k, h12, rfl, by omega, by decide, _, h0, _, _, k, h12, rfl, by omega, by decide, _, h0, 0, 0, _, cs, Nat.le_refl _, Nat.le_refl _, fun v η' hv => ?_⟩
        obtain ⟨rfl, rfl⟩ := hv
        refine ⟨fun c3 => ?_, fun c3 => ?_⟩
        · rw [st, if_neg (by rw [b01_eq0 c3]; exact fun z => absurd z.2 (by decide))] at ih
          exact ih
        · rw [st, if_pos ⟨by omega, b01_ne0 c3⟩, ← pk_mul] at ih
          exact ih
  have middle : ∀ k, k < σ 12 3 → σ 11 k ≠ 0 → ∀ M, M ≤ 64 → J η 0 0 4 [(0, .ref (Y 0)), (1, .int (nI (k_rd σ ((σ 11 k - 1) / 8) ((σ 11 k - 1) % 8) M 8))), (2, .int (nI (k + 1)))] [] → ∀ m t, t + m = 8 → J η 0 0 27 [(0, .ref (Y 0)), (1, .int (nI (k_rd σ ((σ 11 k - 1) / 8) ((σ 11 k - 1) % 8) M t))), (2, .int (nI k)), (3, .int (nI (t + 1)))] [] := by
    intro k hk hm M hM hout m
    induction m with
    | zero =>
      intro t ht
      have ht : t = 8 := ht
      subst ht
      refine run [(4, 3)] 20 ?_
      refine ⟨fun c1 => ?_, fun c1 => ?_⟩
      · rw [← nI_add k 1] at hout
        exact hout
      · rw [cb_gt, e8, iN (by omega)] at c1
        omega
    | succ m ih =>
      intro t ht
      have ih := ih (t + 1) (by omega)
      refine run [(36, 5)] 20 ?_
      refine ⟨fun c1 => ?_, fun c1 => ?_⟩
      · rw [cb_gt, e8, iN (by omega)] at c1
        omega
      · exact inner k hk hm (t + 1) _ (by omega) (by omega) (k_rd_le hM t (by omega)) ih 8 0 rfl
  have loop : ∀ m k, k + m = σ 12 3 → J η 0 0 4 [(0, .ref (Y 0)), (1, .int (nI (k_rt σ k))), (2, .int (nI k))] [] := by
    intro m
    induction m with
    | zero =>
      intro k hk
      refine run [] 20 ?_
      refine ⟨_, h0, fun c1 => ?_, fun c1 => ?_⟩
      · rw [show k = σ 12 3 by omega]
        exact ⟨trivial, ⟨rfl, rfl⟩, Nat.zero_le _, Nat.zero_le _⟩
      · rw [cb_ge, iN (by omega), iN (by omega)] at c1
        omega
    | succ m ih =>
      intro k hk
      have ih := ih (k + 1) (by omega)
      have h64 := (ok.2.2.2.2.1 k (by omega)).2.2.2.1
      by_cases hm : σ 11 k = 0
      · rw [show k_rt σ (k + 1) = k_rt σ k from if_pos hm, ← nI_add k 1] at ih
        refine run [(4, 3)] 30 ?_
        refine ⟨_, h0, fun c1 => ?_, fun c1 => ⟨_, h0, _, _, k, h12, rfl, by omega, fun c2 => ?_, fun c2 => ih⟩⟩
        · rw [cb_ge, iN (by omega), iN (by omega)] at c1
          omega
        · rw [cb_ne, mI_m1t h64] at c2
          exact absurd hm c2
      · rw [show k_rt σ (k + 1) = k_rd σ ((σ 11 k - 1) / 8) ((σ 11 k - 1) % 8) (k_rt σ k) 8 from if_neg hm] at ih
        refine run [(27, 4)] 30 ?_
        refine ⟨_, h0, fun c1 => ?_, fun c1 => ⟨_, h0, _, _, k, h12, rfl, by omega, fun c2 => ?_, fun c2 => ?_⟩⟩
        · rw [cb_ge, iN (by omega), iN (by omega)] at c1
          omega
        · exact middle k (by omega) hm _ (k_rt_le σ k) ih 8 0 rfl
        · rw [cb_ne, mI_m1t h64, Classical.not_not] at c2
          exact absurd c2 hm
  refine run [(4, 3)] 20 ?_
  exact loop (σ 12 3) 0 (by omega)
/-- do a and b hang together: side by side in the album, or by fitting -/
def k_p1 (σ : jj_S) (al : Bool) (a b d : Nat) : Bool := bif al then (decide (σ 11 a ≠ 0) && decide (s_nb σ ((σ 11 a - 1) / 8) ((σ 11 a - 1) % 8) d = some b)) else s_fit σ a d b
def k_pp (σ : jj_S) (al : Bool) (a b : Nat) : Nat → Bool
  | 0 => false
  | d + 1 => k_pp σ al a b d || k_p1 σ al a b d
theorem k_pp_t {σ : jj_S} {al : Bool} {a b d : Nat} (h : k_pp σ al a b d = true) : ∀ m, k_pp σ al a b (d + m) = true
  | 0 => h
  | m + 1 => by
    show (k_pp σ al a b (d + m) || _) = true
    rw [k_pp_t h m]
    rfl
theorem c_isPair {Y : Nat → Nat} {σ : jj_S} {th : Int32} {η : jj_H} (h : m_rep Y σ th η) (ok : s_ok σ) (a b : Nat) (al : Bool) (x : Int32) (hx : x = b01 al) (ha : a < σ 12 3) (hb : b < σ 12 3) : jj_Ht mX7_isPair [.ref (Y 0), .int (nI a), .int (nI b), .int x] η 0 0 (fun v η' => v = some (.int (b01 (k_pp σ al a b 4))) ∧ η' = η) := by
  obtain ⟨-, -, h0, h1, h2, h3, h4, h5, h6, h7, h8, h9, h10, h11, h12⟩ := id h
  have o40 := ok.1.2.2.2
  have e4 : (nI 4).toInt = 4 := rfl
  have h64 := (ok.2.2.2.2.1 a ha).2.2.2.1
  subst hx
  refine jj_lp tok_X7_isPair zok_X7 py_7 rfl fun J run => ?_
  have loop : ∀ m d, d + m = 4 → J η 0 0 6 [(0, .ref (Y 0)), (1, .int (nI a)), (2, .int (nI b)), (3, .int (b01 al)), (4, .int (b01 (k_pp σ al a b d))), (5, .int (nI d))] [] := by
    intro m
    induction m with
    | zero =>
      intro d hd
      have hd : d = 4 := hd
      subst hd
      refine run [] 20 ?_
      exact ⟨fun c1 => ⟨b01_01 _, ⟨rfl, rfl⟩, Nat.zero_le _, Nat.zero_le _⟩, fun c1 => absurd (cb_ge.mpr (Int.le_refl _)) c1⟩
    | succ m ih =>
      intro d hd
      have ih := ih (d + 1) (by omega)
      rw [← nI_add d 1] at ih
      have st : k_pp σ al a b (d + 1) = (k_pp σ al a b d || k_p1 σ al a b d) := rfl
      refine run [(6, 6)] 60 ?_
      refine ⟨fun c1 => ?_, fun c1 => ⟨fun c2 => ?_, fun c2 => ?_⟩⟩
      · rw [cb_ge, e4, iN (by omega)] at c1
        omega
      · rw [show b01 (k_pp σ al a b (d + 1)) = nI 1 by rw [st, b01_ne0 c2]; rfl] at ih
        exact ih
      have c2 := b01_eq0 (Classical.not_not.mp c2)
      rw [c2, Bool.false_or] at st
      rw [st] at ih
      cases al with
      | false =>
        refine ⟨fun c3 => ⟨_, h0, 0, 0, _, c_fit h ok a d b ha hb (by omega), Nat.le_refl _, Nat.le_refl _, fun v η' hv => ?_⟩, fun c3 => absurd rfl c3⟩
        obtain ⟨rfl, rfl⟩ := hv
        refine ⟨fun c4 => ?_, fun c4 => ?_⟩
        · rw [show b01 (k_p1 σ false a b d) = 0 from (congrArg b01 (b01_eq0 c4))] at ih
          exact ih
        · rw [show b01 (k_p1 σ false a b d) = nI 1 from (congrArg b01 (b01_ne0 c4))] at ih
          exact ih
      | true =>
        refine ⟨fun c3 => absurd c3 (by show ¬ (_ = _); decide), fun c3 => ⟨_, h0, _, _, a, h12, rfl, by omega, fun c4 => ?_, fun c4 => ?_⟩⟩
        · rw [cb_eq, mI_m1t h64] at c4
          rw [show b01 (k_p1 σ true a b d) = 0 by
            show b01 (decide (σ 11 a ≠ 0) && _) = 0
            rw [c4]
            rfl] at ih
          exact ih
        · rw [cb_eq, mI_m1t h64] at c4
          have cs := c_stampBeside h ok (σ 11 a - 1) d (by omega) (by omega)
          rw [← mI_at c4] at cs
          refine ⟨_, h0, _, _, a, h12, rfl, by omega, _, h0, 0, 0, _, cs, Nat.le_refl _, Nat.le_refl _, fun v η' hv => ?_⟩
          obtain ⟨rfl, rfl⟩ := hv
          have k1 : k_p1 σ true a b d = decide (s_nb σ ((σ 11 a - 1) / 8) ((σ 11 a - 1) % 8) d = some b) := by
            show (decide (σ 11 a ≠ 0) && _) = _
            rw [decide_eq_true c4, Bool.true_and]
          have ob : (oI (s_nb σ ((σ 11 a - 1) / 8) ((σ 11 a - 1) % 8) d)).toInt = (nI b).toInt ↔ s_nb σ ((σ 11 a - 1) / 8) ((σ 11 a - 1) % 8) d = some b := by
            cases hs : s_nb σ ((σ 11 a - 1) / 8) ((σ 11 a - 1) % 8) d with
            | none =>
              rw [show (oI none).toInt = -1 from rfl, iN (by omega)]
              constructor
              · intro z
                omega
              · intro z
                cases z
            | some j =>
              have := s_nb_lt hs
              rw [show oI (some j) = nI j from rfl, iN (by omega), iN (by omega)]
              constructor
              · intro z
                rw [show j = b by omega]
              · intro z
                cases z
                rfl
          refine ⟨fun c5 => ?_, fun c5 => ?_⟩
          · rw [cb_ne, ob] at c5
            rw [show b01 (k_p1 σ true a b d) = 0 by rw [k1, decide_eq_false c5]; rfl] at ih
            exact ih
          · rw [cb_ne, ob, Classical.not_not] at c5
            rw [show b01 (k_p1 σ true a b d) = nI 1 by rw [k1, decide_eq_true c5]; rfl] at ih
            exact ih
  refine run [(6, 6)] 20 ?_
  exact loop 4 0 rfl
