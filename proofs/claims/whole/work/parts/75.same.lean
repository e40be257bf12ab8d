theorem tk_bit (σ : jj_S) {q : Nat} (hq : q < 64) : (b_tk σ).testBit q = true ↔ ∃ k, s_at σ q = some k := by
  rw [b_tk_bit σ hq]
  cases s_at σ q with
  | none => exact ⟨fun h => (by cases h), fun ⟨k, h⟩ => (by cases h)⟩
  | some k => exact ⟨fun _ => ⟨k, rfl⟩, fun _ => rfl⟩
theorem pl_lt {σ : jj_S} (ok : s_ok σ) {k : Nat} (hk : k < σ 12 3) : σ 11 k - 1 < 64 := by
  have := (ok.2.2.2.2.1 k hk).2.2.2.1
  omega
theorem tk_pl {σ : jj_S} (ok : s_ok σ) {k : Nat} (hk : k < σ 12 3) (hm : σ 11 k ≠ 0) : (b_tk σ).testBit (σ 11 k - 1) = true := (tk_bit σ (pl_lt ok hk)).mpr ⟨k, s_at_of ok hk (by omega)⟩
theorem kR_of {σ : jj_S} {a b : Nat} : k_R σ true a b = true ↔ ∃ d, d < 4 ∧ σ 11 a ≠ 0 ∧ s_nb σ ((σ 11 a - 1) / 8) ((σ 11 a - 1) % 8) d = some b := by
  refine (k_pp_iff 4).trans ⟨fun ⟨d, h1, h2⟩ => ?_, fun ⟨d, h1, h2, h3⟩ => ⟨d, h1, ?_⟩⟩
  · have h2 : (decide (σ 11 a ≠ 0) && decide (s_nb σ ((σ 11 a - 1) / 8) ((σ 11 a - 1) % 8) d = some b)) = true := h2
    rw [Bool.and_eq_true, decide_eq_true_eq, decide_eq_true_eq] at h2
    exact ⟨d, h1, h2⟩
  · show (decide (σ 11 a ≠ 0) && decide (s_nb σ ((σ 11 a - 1) / 8) ((σ 11 a - 1) % 8) d = some b)) = true
    rw [Bool.and_eq_true, decide_eq_true_eq, decide_eq_true_eq]
    exact ⟨h2, h3⟩
theorem cn_to {σ : jj_S} (ok : s_ok σ) {a b : Nat} (ha : a < σ 12 3) (hm : σ 11 a ≠ 0) (h : cn (k_R σ true) (σ 12 3) a b) : σ 11 b ≠ 0 ∧ cn (bR (b_tk σ)) 64 (σ 11 a - 1) (σ 11 b - 1) := by
  refine h (fun x => σ 11 x ≠ 0 ∧ cn (bR (b_tk σ)) 64 (σ 11 a - 1) (σ 11 x - 1)) ⟨hm, cn.rf⟩ ?_
  rintro x y hx hy ⟨h1, h2⟩ hr
  obtain ⟨d, d1, d2, d3⟩ := kR_of.mp hr
  obtain ⟨q, q1, q2⟩ := s_nb_some d3
  have e := (s_at_some q2).2
  refine ⟨by omega, h2.tr ?_⟩
  have eq : σ 11 y - 1 = q := by omega
  refine cn.st (pl_lt ok hx) (pl_lt ok hy) (bR_iff.mpr ⟨⟨tk_pl ok hx h1, tk_pl ok hy (by omega)⟩, ?_⟩)
  rw [eq]
  exact adj_iff.mpr ⟨d, d1, q1⟩
theorem cn_from {σ : jj_S} (ok : s_ok σ) {a q : Nat} (ha : a < σ 12 3) (hm : σ 11 a ≠ 0) (h : cn (bR (b_tk σ)) 64 (σ 11 a - 1) q) : ∃ b, b < σ 12 3 ∧ σ 11 b = q + 1 ∧ cn (k_R σ true) (σ 12 3) a b := by
  refine h (fun x => ∃ b, b < σ 12 3 ∧ σ 11 b = x + 1 ∧ cn (k_R σ true) (σ 12 3) a b) ⟨a, ha, by omega, cn.rf⟩ ?_
  rintro x y hx hy ⟨b, b1, b2, b3⟩ hr
  obtain ⟨⟨r1, r2⟩, r3⟩ := bR_iff.mp hr
  obtain ⟨c, hc⟩ := (tk_bit σ hy).mp r2
  obtain ⟨c1, c2⟩ := s_at_some hc
  obtain ⟨d, d1, d2⟩ := adj_iff.mp r3
  refine ⟨c, c1, c2, b3.tr (cn.st b1 c1 (kR_of.mpr ⟨d, d1, by omega, ?_⟩))⟩
  rw [b2, Nat.add_sub_cancel]
  unfold s_nb
  rw [d2]
  exact hc
theorem cs_pl {σ : jj_S} (ok : s_ok σ) {a : Nat} (ha : a < σ 12 3) (hm : σ 11 a ≠ 0) : cs (k_R σ true) (σ 12 3) a = cs (bR (b_tk σ)) 64 (σ 11 a - 1) := by
  apply Nat.le_antisymm
  · refine ct_inj (fun x => σ 11 x - 1) (fun x hx h => ⟨pl_lt ok hx, cb_iff.mpr (cn_to ok ha hm (cb_iff.mp h)).2⟩) (fun x y hx hy px py e => ?_)
    have nx := (cn_to ok ha hm (cb_iff.mp px)).1
    have ny := (cn_to ok ha hm (cb_iff.mp py)).1
    have e : σ 11 x - 1 = σ 11 y - 1 := e
    exact ok.2.2.2.2.2.1 x y hx hy (by omega) nx
  · have ch : ∀ q, ∃ b, cn (bR (b_tk σ)) 64 (σ 11 a - 1) q → b < σ 12 3 ∧ σ 11 b = q + 1 ∧ cn (k_R σ true) (σ 12 3) a b := fun q => by
      by_cases z : cn (bR (b_tk σ)) 64 (σ 11 a - 1) q
      · obtain ⟨b, hb⟩ := cn_from ok ha hm z
        exact ⟨b, fun _ => hb⟩
      · exact ⟨0, fun y => absurd y z⟩
    refine ct_inj (fun q => Classical.choose (ch q)) (fun q hq h => ?_) (fun p q hp hq h1 h2 e => ?_)
    · have := Classical.choose_spec (ch q) (cb_iff.mp h)
      exact ⟨this.1, cb_iff.mpr this.2.2⟩
    · have e1 := (Classical.choose_spec (ch p) (cb_iff.mp h1)).2.1
      have e2 := (Classical.choose_spec (ch q) (cb_iff.mp h2)).2.1
      have e : Classical.choose (ch p) = Classical.choose (ch q) := e
      rw [e] at e1
      omega
theorem e_7 {σ : jj_S} (ok : s_ok σ) : (b_lc (b_tk σ) 64).2 = mxF (k_R σ true) (k_V σ true) (σ 12 3) (σ 12 3) := by
  rw [(b_lc_spec (b_tk_lt σ) 64 (Nat.le_refl _)).2]
  obtain ⟨l1, l2⟩ := mxF_spec (R := bR (b_tk σ)) (V := bV (b_tk σ)) (n := 64) 64
  obtain ⟨m1, m2⟩ := mxF_spec (R := k_R σ true) (V := k_V σ true) (n := σ 12 3) (σ 12 3)
  apply Nat.le_antisymm
  · rcases l2 with l2 | ⟨q, q1, q2, q3⟩
    · rw [l2]
      exact Nat.zero_le _
    · obtain ⟨k, hk⟩ := (tk_bit σ q1).mp q2.1
      obtain ⟨k1, k2⟩ := s_at_some hk
      have hm : σ 11 k ≠ 0 := by omega
      have e := cs_pl ok k1 hm
      rw [show σ 11 k - 1 = q by omega] at e
      obtain ⟨j, j1, j2, _, j4⟩ := fst_of (V := k_V σ true) (k_R_sy ok true) k1 (Or.inr hm)
      rw [q3, ← e, ← j4]
      exact m1 j j1 j2
  · rcases m2 with m2 | ⟨k, k1, k2, k3⟩
    · rw [m2]
      exact Nat.zero_le _
    · have hm : σ 11 k ≠ 0 := k2.1.elim (fun e => (by cases e)) id
      obtain ⟨j, j1, j2, _, j4⟩ := fst_of (V := bV (b_tk σ)) (bR_sy (b_tk σ)) (pl_lt ok k1) (tk_pl ok k1 hm)
      rw [k3, cs_pl ok k1 hm, ← j4]
      exact l1 j j1 j2
/-- a sum -/
def sm (w : Nat → Nat) : Nat → Nat
  | 0 => 0
  | n + 1 => sm w n + w n
theorem sm_cong {w v : Nat → Nat} : ∀ {n}, (∀ k, k < n → w k = v k) → sm w n = sm v n
  | 0, _ => rfl
  | n + 1, h => by
    show sm w n + w n = sm v n + v n
    rw [sm_cong (fun k hk => h k (by omega)), h n (by omega)]
theorem sm_add (w v : Nat → Nat) : ∀ n, sm w n + sm v n = sm (fun k => w k + v k) n
  | 0 => rfl
  | n + 1 => by
    have ih := sm_add w v n
    show (sm w n + w n) + (sm v n + v n) = sm (fun k => w k + v k) n + (w n + v n)
    omega
theorem sm_ct (p : Nat → Bool) : ∀ n, fb_ct p n = sm (fun k => if p k then 1 else 0) n
  | 0 => rfl
  | n + 1 => by
    rw [fb_ct_succ, sm_ct p n]
    rfl
theorem sm_up {w v : Nat → Nat} {i : Nat} (h : ∀ k, k ≠ i → w k = v k) : ∀ {n}, i < n → sm w n + v i = sm v n + w i
  | 0, hi => absurd hi (Nat.not_lt_zero _)
  | n + 1, hi => by
    show (sm w n + w n) + v i = (sm v n + v n) + w i
    by_cases z : i = n
    · subst z
      have := sm_cong (w := w) (v := v) (n := i) (fun k hk => h k (by omega))
      omega
    · have ih := sm_up h (n := n) (by omega)
      have := h n (fun e => z e.symm)
      omega
def sat (W : Nat → Nat → Nat) (q : Nat) (o : Option Nat) : Nat := match o with
  | some k => W k q
  | none => 0
/-- over the places, or over the stamps: the same sum -/
theorem sm_atN {σ : jj_S} (ok : s_ok σ) (W : Nat → Nat → Nat) {N : Nat} (hN : N = 64) : ∀ n, n ≤ σ 12 3 → sm (fun q => sat W q (s_atn σ q n)) N = sm (fun k => if σ 11 k = 0 then 0 else W k (σ 11 k - 1)) n
  | 0, _ => by
    have z : ∀ m, sm (fun q => sat W q (s_atn σ q 0)) m = 0 := fun m => by
      induction m with
      | zero => rfl
      | succ m ih => exact ih
    exact z N
  | n + 1, hn => by
    have ih := sm_atN ok W hN n (by omega)
    show _ = sm (fun k => if σ 11 k = 0 then 0 else W k (σ 11 k - 1)) n + (if σ 11 n = 0 then 0 else W n (σ 11 n - 1))
    have st : ∀ q, s_atn σ q (n + 1) = if σ 11 n = q + 1 then some n else s_atn σ q n := fun _ => rfl
    by_cases z : σ 11 n = 0
    · rw [if_pos z, ← ih, Nat.add_zero]
      refine sm_cong fun q _ => ?_
      rw [st, if_neg (by omega)]
    · rw [if_neg z]
      have none_ : s_atn σ (σ 11 n - 1) n = none := by
        cases hs : s_atn σ (σ 11 n - 1) n with
        | none => rfl
        | some j =>
          obtain ⟨j1, j2⟩ := s_atn_some hs
          have := ok.2.2.2.2.2.1 j n (by omega) (by omega) (by omega) (by omega)
          omega
      have up := sm_up (w := fun q => sat W q (s_atn σ q (n + 1))) (v := fun q => sat W q (s_atn σ q n)) (i := σ 11 n - 1) (fun q hq => by
        show sat W q (s_atn σ q (n + 1)) = sat W q (s_atn σ q n)
        rw [st, if_neg (by omega)]) (n := N) (by rw [hN]; exact pl_lt ok (show n < σ 12 3 by omega))
      have e1 : sat W (σ 11 n - 1) (s_atn σ (σ 11 n - 1) (n + 1)) = W n (σ 11 n - 1) := by
        rw [st, if_pos (by omega)]
        rfl
      have e2 : sat W (σ 11 n - 1) (s_atn σ (σ 11 n - 1) n) = 0 := by
        rw [none_]
        rfl
      rw [e1, e2, ih] at up
      exact up
theorem sm_at {σ : jj_S} (ok : s_ok σ) (W : Nat → Nat → Nat) {N : Nat} (hN : N = 64) : sm (fun q => sat W q (s_at σ q)) N = sm (fun k => if σ 11 k = 0 then 0 else W k (σ 11 k - 1)) (σ 12 3) := sm_atN ok W hN _ (Nat.le_refl _)
theorem popc_N {t N : Nat} (hN : N = 64) : popc t = sm (fun q => if t.testBit q then 1 else 0) N := by
  subst hN
  exact sm_ct _ 64
theorem k_isb (σ : jj_S) {q : Nat} (hq : q < 64) : k_is (s_at σ q) = if (b_tk σ).testBit q then 1 else 0 := by
  rw [b_tk_bit σ hq]
  cases s_at σ q <;> rfl
theorem tk_hi (σ : jj_S) {q : Nat} (hq : 64 ≤ q) : (b_tk σ).testBit q = false := Nat.testBit_lt_two_pow (Nat.lt_of_lt_of_le (b_tk_lt σ) (Nat.pow_le_pow_right (by decide) hq))
theorem tr_bit (σ : jj_S) {q : Nat} (hq : q < 64) : (b_tr (b_tk σ)).testBit q = (((b_tk σ).testBit q && (b_tk σ).testBit (q + 1)) && decide (q % 8 ≠ 7)) := by
  unfold b_tr
  rw [Nat.testBit_and, Nat.testBit_and, LC_bit q hq, show b_tk σ / 2 = b_tk σ / 2 ^ 1 from rfl, Nat.testBit_div_two_pow, Nat.add_comm]
theorem nb1 (σ : jj_S) {q : Nat} (hq : q < 64) : k_is (s_nb σ (q / 8) (q % 8) 1) = if ((b_tk σ).testBit (q + 1) && decide (q % 8 ≠ 7)) then 1 else 0 := by
  by_cases z : q % 8 = 7
  · have e : s_bp (q / 8) (q % 8) 1 = none := if_pos z
    unfold s_nb
    rw [e, z, decide_eq_false (by decide), Bool.and_false]
    rfl
  · have e : s_bp (q / 8) (q % 8) 1 = some (8 * (q / 8) + (q % 8 + 1)) := if_neg z
    unfold s_nb
    rw [e, decide_eq_true z, Bool.and_true, ← k_isb σ (by omega), show q + 1 = 8 * (q / 8) + (q % 8 + 1) by omega]
    rfl
theorem nb2 (σ : jj_S) {q : Nat} (hq : q < 64) : k_is (s_nb σ (q / 8) (q % 8) 2) = if (b_tk σ).testBit (q + 8) then 1 else 0 := by
  by_cases z : q / 8 = 7
  · have e : s_bp (q / 8) (q % 8) 2 = none := if_pos z
    unfold s_nb
    rw [e, tk_hi σ (by omega)]
    rfl
  · have e : s_bp (q / 8) (q % 8) 2 = some (8 * (q / 8 + 1) + q % 8) := if_neg z
    unfold s_nb
    rw [e, ← k_isb σ (by omega), show q + 8 = 8 * (q / 8 + 1) + q % 8 by omega]
    rfl
theorem at_some {σ : jj_S} {q : Nat} (hq : q < 64) (f : Nat → Nat) : sat (fun _ q => f q) q (s_at σ q) = if (b_tk σ).testBit q then f q else 0 := by
  rw [b_tk_bit σ hq]
  cases s_at σ q <;> rfl
theorem ite_and {a b : Bool} {x : Nat} : (if a then (if b then x else 0) else 0) = if (a && b) then x else 0 := by cases a <;> cases b <;> rfl
theorem k_pr_sm (σ : jj_S) : ∀ n, k_pr σ n = sm (fun k => if σ 11 k = 0 then 0 else k_pq σ (σ 11 k - 1) 2) n
  | 0 => rfl
  | n + 1 => congrArg (· + _) (k_pr_sm σ n)
theorem e_5 {σ : jj_S} (ok : s_ok σ) : b_prs (b_tk σ) = k_pr σ (σ 12 3) := by
  obtain ⟨N, hN⟩ : ∃ N, N = 64 := ⟨_, rfl⟩
  rw [k_pr_sm, ← sm_at ok (fun _ q => k_pq σ q 2) hN]
  unfold b_prs
  rw [popc_N hN, popc_N hN, sm_add]
  refine sm_cong fun q hq => ?_
  rw [hN] at hq
  refine Eq.trans ?_ (at_some hq (fun q => k_pq σ q 2)).symm
  show (if (b_tr (b_tk σ)).testBit q = true then 1 else 0) + (if (b_tk σ &&& b_tk σ / 256).testBit q = true then 1 else 0) = if (b_tk σ).testBit q = true then (0 + k_is (s_nb σ (q / 8) (q % 8) 1)) + k_is (s_nb σ (q / 8) (q % 8) 2) else 0
  rw [tr_bit σ hq, Nat.testBit_and, show b_tk σ / 256 = b_tk σ / 2 ^ 8 from rfl, Nat.testBit_div_two_pow, nb1 σ hq, nb2 σ hq, Nat.zero_add]
  cases (b_tk σ).testBit q <;> cases (b_tk σ).testBit (q + 1) <;> cases (b_tk σ).testBit (q + 8) <;> cases decide (q % 8 ≠ 7) <;> rfl
theorem k_bl_sm (σ : jj_S) : ∀ n, k_bl σ n = sm (fun k => if σ 11 k = 0 then 0 else if k_tk σ ((σ 11 k - 1) / 8) ((σ 11 k - 1) % 8) 2 2 then 1 else 0) n
  | 0 => rfl
  | n + 1 => congrArg (· + _) (k_bl_sm σ n)
theorem e_6 {σ : jj_S} (ok : s_ok σ) : b_blk (b_tk σ) = k_bl σ (σ 12 3) := by
  obtain ⟨N, hN⟩ : ∃ N, N = 64 := ⟨_, rfl⟩
  rw [k_bl_sm, ← sm_at ok (fun _ q => if k_tk σ (q / 8) (q % 8) 2 2 then 1 else 0) hN]
  unfold b_blk
  rw [popc_N hN]
  refine sm_cong fun q hq => ?_
  rw [hN] at hq
  refine Eq.trans ?_ (at_some hq (fun q => if k_tk σ (q / 8) (q % 8) 2 2 then 1 else 0)).symm
  rw [ite_and]
  show (if (b_tr (b_tk σ) &&& b_tr (b_tk σ) / 256).testBit q = true then 1 else 0) = _
  have e : (b_tr (b_tk σ) &&& b_tr (b_tk σ) / 256).testBit q = ((b_tk σ).testBit q && k_tk σ (q / 8) (q % 8) 2 2) := by
    rw [Nat.testBit_and, show b_tr (b_tk σ) / 256 = b_tr (b_tk σ) / 2 ^ 8 from rfl, Nat.testBit_div_two_pow, tr_bit σ hq]
    by_cases z : q / 8 = 7
    · have e1 : (b_tr (b_tk σ)).testBit (q + 8) = false := Nat.testBit_lt_two_pow (Nat.lt_of_lt_of_le (b_tr_lt (b_tk_lt σ)) (Nat.pow_le_pow_right (by decide) (by omega)))
      rw [e1, Bool.and_false]
      unfold k_tk
      rw [decide_eq_false (show ¬ q / 8 + 2 ≤ 8 by omega), Bool.false_and, Bool.false_and, Bool.and_false]
    · rw [tr_bit σ (show q + 8 < 64 by omega), show (q + 8) % 8 = q % 8 by omega]
      by_cases y : q % 8 = 7
      · rw [y, decide_eq_false (show ¬ (7 : Nat) ≠ 7 by decide), Bool.and_false, Bool.false_and]
        unfold k_tk
        rw [decide_eq_false (show ¬ 7 + 2 ≤ 8 by decide), Bool.and_false, Bool.false_and, Bool.and_false]
      · unfold k_tk
        rw [decide_eq_true y, decide_eq_true (show q / 8 + 2 ≤ 8 by omega), decide_eq_true (show q % 8 + 2 ≤ 8 by omega)]
        show _ = ((b_tk σ).testBit q && (true && ((((true && (s_at σ (8 * (q / 8 + 0 / 2) + q % 8 + 0 % 2)).isSome) && (s_at σ (8 * (q / 8 + 1 / 2) + q % 8 + 1 % 2)).isSome) && (s_at σ (8 * (q / 8 + 2 / 2) + q % 8 + 2 % 2)).isSome) && (s_at σ (8 * (q / 8 + 3 / 2) + q % 8 + 3 % 2)).isSome)))
        rw [show 8 * (q / 8 + 0 / 2) + q % 8 + 0 % 2 = q by omega, show 8 * (q / 8 + 1 / 2) + q % 8 + 1 % 2 = q + 1 by omega, show 8 * (q / 8 + 2 / 2) + q % 8 + 2 % 2 = q + 8 by omega, show 8 * (q / 8 + 3 / 2) + q % 8 + 3 % 2 = q + 8 + 1 by omega, ← b_tk_bit σ hq, ← b_tk_bit σ (show q + 1 < 64 by omega), ← b_tk_bit σ (show q + 8 < 64 by omega), ← b_tk_bit σ (show q + 8 + 1 < 64 by omega)]
        cases (b_tk σ).testBit q <;> cases (b_tk σ).testBit (q + 1) <;> cases (b_tk σ).testBit (q + 8) <;> cases (b_tk σ).testBit (q + 8 + 1) <;> rfl
  rw [e]
theorem nI_bv (x : Int32) : nI x.toBitVec.toNat = x := by
  apply Int32.toBitVec_inj.mp
  show BitVec.ofNat 32 x.toBitVec.toNat = x.toBitVec
  rw [BitVec.ofNat_toNat, BitVec.setWidth_eq]
theorem k_al_sm (σ : jj_S) (b : Bool) : ∀ n, k_al σ b n = nI (sm (fun k => if σ 11 k = 0 then 0 else if b then 1 else (s_price σ k).toBitVec.toNat) n)
  | 0 => rfl
  | n + 1 => by
    show k_al σ b n + (if σ 11 n = 0 then 0 else if b then nI 1 else s_price σ n) = nI (sm (fun k => if σ 11 k = 0 then 0 else if b then 1 else (s_price σ k).toBitVec.toNat) n + (if σ 11 n = 0 then 0 else if b then 1 else (s_price σ n).toBitVec.toNat))
    rw [k_al_sm σ b n, ← nI_add]
    congr 1
    by_cases z : σ 11 n = 0
    · rw [if_pos z, if_pos z]
      rfl
    · rw [if_neg z, if_neg z]
      cases b with
      | true => rfl
      | false => exact (nI_bv _).symm
theorem e_4 {σ : jj_S} (ok : s_ok σ) : nI (popc (b_tk σ)) = k_al σ true (σ 12 3) := by
  obtain ⟨N, hN⟩ : ∃ N, N = 64 := ⟨_, rfl⟩
  rw [k_al_sm, show sm (fun k => if σ 11 k = 0 then 0 else if true = true then 1 else (s_price σ k).toBitVec.toNat) (σ 12 3) = sm (fun k => if σ 11 k = 0 then 0 else 1) (σ 12 3) from sm_cong fun k _ => (by rw [if_pos rfl]), ← sm_at ok (fun _ _ => 1) hN, popc_N hN]
  congr 1
  exact sm_cong fun q hq => (at_some (by rw [hN] at hq; exact hq) (fun _ => 1)).symm
theorem b_wo_sm (σ : jj_S) : ∀ n, b_wo σ n = (nI 5 * nI (b_prs (b_tk σ)) + nI 50 * nI (b_blk (b_tk σ))) + nI (sm (fun q => sat (fun k _ => (s_price σ k).toBitVec.toNat) q (s_at σ q)) n)
  | 0 => (by
    show _ = _ + nI 0
    rw [nI_0, a_z]
    rfl)
  | n + 1 => by
    have ih := b_wo_sm σ n
    show (match s_at σ n with | none => b_wo σ n | some k => b_wo σ n + s_price σ k) = _ + nI (sm (fun q => sat (fun k _ => (s_price σ k).toBitVec.toNat) q (s_at σ q)) n + sat (fun k _ => (s_price σ k).toBitVec.toNat) n (s_at σ n))
    cases hs : s_at σ n with
    | none => exact ih
    | some k =>
      show b_wo σ n + s_price σ k = _ + nI (sm _ n + (s_price σ k).toBitVec.toNat)
      rw [ih, ← nI_add (sm _ n), nI_bv, Int32.add_assoc]
theorem e_11 {σ : jj_S} (ok : s_ok σ) : b_wo σ 64 = k_al σ false (σ 12 3) + nI 5 * nI (k_pr σ (σ 12 3)) + nI 50 * nI (k_bl σ (σ 12 3)) := by
  obtain ⟨N, hN⟩ : ∃ N, N = 64 := ⟨_, rfl⟩
  rw [← hN, b_wo_sm, e_5 ok, e_6 ok, k_al_sm, sm_at ok (fun k _ => (s_price σ k).toBitVec.toNat) hN, show sm (fun k => if σ 11 k = 0 then 0 else if false = true then 1 else (s_price σ k).toBitVec.toNat) (σ 12 3) = sm (fun k => if σ 11 k = 0 then 0 else (s_price σ k).toBitVec.toNat) (σ 12 3) from sm_cong fun k _ => (by rw [if_neg (show ¬ false = true by decide)]), Int32.add_comm, Int32.add_assoc]
