/-! PLACES LIKE A STAMP -/
def s_edge (σ : jj_S) (p r c : Nat) : Nat := ((if r = 0 then 1 else 0) ||| (if r + 1 = σ 0 p then 4 else 0)) ||| ((if c = 0 then 8 else 0) ||| (if c + 1 = σ 1 p then 2 else 0))
def s_shb (σ : jj_S) (p q s : Nat) : Bool := (List.range 1000).any (fun r => s_fl σ p q r == s)
theorem s_shb_iff {σ : jj_S} {p q s : Nat} : s_shb σ p q s = true ↔ s_shown σ p q s := by
  unfold s_shb s_shown
  simp [List.any_eq_true]
def s_lk (σ : jj_S) (p s t k : Nat) : Bool := decide (s_edge σ p (k / σ 1 p) (k % σ 1 p) = t) && s_shb σ p (8 * (k / σ 1 p) + k % σ 1 p) s
theorem pl8 (r c : Nat) : nI r * nI 8 + nI c = nI (8 * r + c) := by
  rw [pk_mul, nI_add, Nat.mul_comm]
theorem i_test (x : Int32) (s : Nat) (hs : s < 32) : ((x.toUInt32 >>> ((nI s).toUInt32 &&& Int32.toUInt32 31)).toInt32 &&& nI 1) = nI 1 ↔ x.toBitVec.getLsbD s = true := by
  have key : ∀ i, i < 32 → bt ((x.toUInt32 >>> ((nI s).toUInt32 &&& Int32.toUInt32 31)).toInt32 &&& nI 1) i = (decide (i = 0) && bt x s) := by
    intro i hi
    rw [b_and, b_ushr s hs]
    have h1 : ∀ i, i < 32 → bt (nI 1) i = decide (i = 0) := by decide +kernel
    rw [h1 i hi]
    by_cases hz : i = 0
    · subst hz; simp
    · simp [hz]
  have h1 : ∀ i, i < 32 → bt (nI 1) i = decide (i = 0) := by decide +kernel
  constructor
  · intro h
    have h2 := key 0 (by decide)
    rw [h, h1 0 (by decide)] at h2
    have h3 : bt x s = true := by simpa using h2.symm
    exact h3
  · intro h
    refine b_ext fun i hi => ?_
    rw [key i hi, h1 i hi, show bt x s = true from h]
    simp
theorem c_edges {α : Nat → Nat → Nat} {σ : jj_S} {η : jj_H} {p : Nat} (h : x_pl0 α σ η p) (hok : s_okp σ p) (r c : Nat) (hr : r < σ 0 p) (hc : c < σ 1 p) : jj_Ht mX3_edges [.ref (α 0 p), .int (nI r), .int (nI c)] η 0 0 (fun v η' => v = some (.int (nI (s_edge σ p r c))) ∧ η' = η) := by
  obtain ⟨h0, -⟩ := h
  obtain ⟨⟨o1, o2, o3, o4, -⟩, -⟩ := hok
  refine jj_go tok_X3_edges zok_X3 py_3 rfl 60 fun J => ?_
  refine ⟨fun c1 => ⟨_, h0, fun c2 => ⟨fun c3 => ⟨_, h0, fun c4 => ?_, fun c4 => ?_⟩, fun c3 => ⟨_, h0, fun c4 => ?_, fun c4 => ?_⟩⟩, fun c2 => ⟨fun c3 => ⟨_, h0, fun c4 => ?_, fun c4 => ?_⟩, fun c3 => ⟨_, h0, fun c4 => ?_, fun c4 => ?_⟩⟩⟩, fun c1 => ⟨_, h0, fun c2 => ⟨fun c3 => ⟨_, h0, fun c4 => ?_, fun c4 => ?_⟩, fun c3 => ⟨_, h0, fun c4 => ?_, fun c4 => ?_⟩⟩, fun c2 => ⟨fun c3 => ⟨_, h0, fun c4 => ?_, fun c4 => ?_⟩, fun c3 => ⟨_, h0, fun c4 => ?_, fun c4 => ?_⟩⟩⟩⟩
  all_goals
    rw [cb_ne, i0, iN (by omega)] at c1
    rw [cb_ne, pk_sub o1, iN (by omega), iN (by omega)] at c2
    rw [cb_ne, i0, iN (by omega)] at c3
    rw [cb_ne, pk_sub o3, iN (by omega), iN (by omega)] at c4
    refine ⟨trivial, ⟨?_, rfl⟩, Nat.zero_le _, Nat.zero_le _⟩
    unfold s_edge
    split <;> split <;> split <;> split <;> first | omega | rfl
theorem c_isLike {α : Nat → Nat → Nat} {σ : jj_S} {η : jj_H} {p : Nat} (h : x_plate α σ η p) (hok : s_okp σ p) (r c s t : Nat) (hr : r < σ 0 p) (hc : c < σ 1 p) (hs : s < 32) (ht : t < 2147483648) : jj_Ht mX3_isLike [.ref (α 0 p), .int (nI r), .int (nI c), .int (nI s), .int (nI t)] η 0 0 (fun v η' => v = some (.int (b01 (decide (s_edge σ p r c = t) && s_shb σ p (8 * r + c) s))) ∧ η' = η) := by
  obtain ⟨h0, -, ⟨f, hf, hff⟩, -⟩ := id h
  obtain ⟨⟨o1, o2, o3, o4, -⟩, -⟩ := id hok
  have e64 : (nI 64).toInt = 64 := rfl
  have he : s_edge σ p r c < 2147483648 := by
    unfold s_edge
    split <;> split <;> split <;> split <;> decide
  refine jj_go tok_X3_isLike zok_X3 py_3 rfl 60 fun J => ?_
  refine ⟨0, 0, _, c_placeAt η _ _, Nat.le_refl _, Nat.le_refl _, fun v η' hv => ?_⟩
  obtain ⟨rfl, rfl⟩ := hv
  refine ⟨_, h0, 0, 0, _, c_edges h.pl0 hok r c hr hc, Nat.le_refl _, Nat.le_refl _, fun v η' hv => ?_⟩
  obtain ⟨rfl, rfl⟩ := hv
  refine ⟨fun c1 => ?_, fun c1 => ⟨fun c2 => ?_, fun c2 => ⟨_, h0, _, _, _, hf, fun c3 => ?_, fun c3 => ?_⟩⟩⟩
  · rw [cb_ne, iN he, iN ht] at c1
    exact ⟨Or.inl rfl, ⟨rz (by simp; omega), rfl⟩, Nat.zero_le _, Nat.zero_le _⟩
  · rw [pl8, cb_lt, i0, iN (by omega)] at c2
    omega
  · rw [pl8, cb_ge, e64, iN (by omega)] at c3
    omega
  · rw [cb_ne, iN he, iN ht] at c1
    refine ⟨_, h0, _, _, 8 * r + c, hf, pl8 r c, by omega, fun c4 => ?_, fun c4 => ?_⟩
    · have c4 : ¬ _ = nI 1 := c4
      rw [i_test _ s hs, hff _ (by omega) s hs, ← s_shb_iff] at c4
      exact ⟨Or.inl rfl, ⟨rz (by simp only [Bool.and_eq_false_iff]; right; simpa using c4), rfl⟩, Nat.zero_le _, Nat.zero_le _⟩
    · have c4 : ¬ ¬ _ = nI 1 := c4
      rw [Classical.not_not, i_test _ s hs, hff _ (by omega) s hs, ← s_shb_iff] at c4
      exact ⟨Or.inr rfl, ⟨ro (by simp only [Bool.and_eq_true, decide_eq_true_eq]; exact ⟨by omega, c4⟩), rfl⟩, Nat.zero_le _, Nat.zero_le _⟩
theorem dm_div {r c C : Nat} (hc : c < C) : (C * r + c) / C = r := by
  rw [Nat.mul_add_div (by omega), Nat.div_eq_of_lt hc]
  rfl
theorem dm_mod {r c C : Nat} (hc : c < C) : (C * r + c) % C = c := by
  rw [Nat.mul_add_mod, Nat.mod_eq_of_lt hc]
/-- how many places of the plate p are like it -/
def s_lkn (σ : jj_S) (p s t : Nat) : Nat := fb_ct (s_lk σ p s t) (σ 1 p * σ 0 p)
theorem c_placesLike {α : Nat → Nat → Nat} {σ : jj_S} {η : jj_H} {p : Nat} (h : x_plate α σ η p) (hok : s_okp σ p) (s t : Nat) (hs : s < 32) (ht : t < 2147483648) : jj_Ht mX3_placesLike [.ref (α 0 p), .int (nI s), .int (nI t)] η 0 0 (fun v η' => v = some (.int (nI (s_lkn σ p s t))) ∧ η' = η) := by
  obtain ⟨h0, -⟩ := id h
  obtain ⟨⟨o1, o2, o3, o4, -⟩, -⟩ := id hok
  refine jj_lp tok_X3_placesLike zok_X3 py_3 rfl fun J run => ?_
  have inner : ∀ r, r < σ 0 p → J η 0 0 5 [(0, .ref (α 0 p)), (1, .int (nI s)), (2, .int (nI t)), (3, .int (nI (fb_ct (s_lk σ p s t) (σ 1 p * (r + 1))))), (4, .int (nI (r + 1)))] [] → ∀ m c, c + m = σ 1 p → J η 0 0 17 [(0, .ref (α 0 p)), (1, .int (nI s)), (2, .int (nI t)), (3, .int (nI (fb_ct (s_lk σ p s t) (σ 1 p * r + c)))), (4, .int (nI r)), (5, .int (nI c))] [] := by
    intro r hr hout m
    induction m with
    | zero =>
      intro c hc
      refine run [(5, 5)] 20 ?_
      refine ⟨_, h0, fun c1 => ?_, fun c1 => ?_⟩
      · rw [show σ 1 p * r + c = σ 1 p * (r + 1) by rw [Nat.mul_add]; omega]
        rw [← nI_add] at hout
        exact hout
      · rw [cb_ge, iN (by omega), iN (by omega)] at c1
        omega
    | succ m ih =>
      intro c hc
      refine run [(17, 6)] 40 ?_
      refine ⟨_, h0, fun c1 => ?_, fun c1 => ?_⟩
      · rw [cb_ge, iN (by omega), iN (by omega)] at c1
        omega
      refine ⟨_, h0, 0, 0, _, c_isLike h hok r c s t hr (by omega) hs ht, Nat.le_refl _, Nat.le_refl _, fun v η' hv => ?_⟩
      obtain ⟨rfl, rfl⟩ := hv
      have ih := ih (c + 1) (by omega)
      have e1 : s_lk σ p s t (σ 1 p * r + c) = (decide (s_edge σ p r c = t) && s_shb σ p (8 * r + c) s) := by
        unfold s_lk
        rw [dm_div (by omega), dm_mod (by omega)]
      rw [← Nat.add_assoc, fb_ct_succ, e1, ← nI_add c 1] at ih
      refine ⟨fun c2 => ?_, fun c2 => ?_⟩
      · rw [b01_eq0 c2] at ih
        exact ih
      · rw [b01_ne0 c2, if_pos rfl, ← nI_add] at ih
        exact ih
  have outer : ∀ m r, r + m = σ 0 p → J η 0 0 5 [(0, .ref (α 0 p)), (1, .int (nI s)), (2, .int (nI t)), (3, .int (nI (fb_ct (s_lk σ p s t) (σ 1 p * r)))), (4, .int (nI r))] [] := by
    intro m
    induction m with
    | zero =>
      intro r hr
      refine run [] 20 ?_
      refine ⟨_, h0, fun c1 => ?_, fun c1 => ?_⟩
      · rw [show r = σ 0 p by omega]
        exact ⟨trivial, ⟨rfl, rfl⟩, Nat.zero_le _, Nat.zero_le _⟩
      · rw [cb_ge, iN (by omega), iN (by omega)] at c1
        omega
    | succ m ih =>
      intro r hr
      refine run [(17, 6)] 20 ?_
      refine ⟨_, h0, fun c1 => ?_, fun c1 => ?_⟩
      · rw [cb_ge, iN (by omega), iN (by omega)] at c1
        omega
      · exact inner r (by omega) (ih (r + 1) (by omega)) (σ 1 p) 0 (by omega)
  refine run [(5, 5)] 20 ?_
  exact outer (σ 0 p) 0 (by omega)
theorem c_placeLike {α : Nat → Nat → Nat} {σ : jj_S} {η : jj_H} {p : Nat} (h : x_plate α σ η p) (hok : s_okp σ p) (s t i : Nat) (hs : s < 32) (ht : t < 2147483648) (hi : i < s_lkn σ p s t) : jj_Ht mX3_placeLike [.ref (α 0 p), .int (nI s), .int (nI t), .int (nI i)] η 0 0 (fun v η' => (∃ k, k < σ 1 p * σ 0 p ∧ s_lk σ p s t k = true ∧ fb_ct (s_lk σ p s t) k = i ∧ v = some (.int (nI (8 * (k / σ 1 p) + k % σ 1 p)))) ∧ η' = η) := by
  obtain ⟨h0, -⟩ := id h
  obtain ⟨⟨o1, o2, o3, o4, -⟩, -⟩ := id hok
  have hcap : σ 1 p * σ 0 p ≤ 64 := Nat.mul_le_mul o4 o2
  have hi64 : i < 64 := Nat.lt_of_lt_of_le hi (Nat.le_trans (fb_ct_le _ _) hcap)
  refine jj_lp tok_X3_placeLike zok_X3 py_3 rfl fun J run => ?_
  have inner : ∀ r, r < σ 0 p → (fb_ct (s_lk σ p s t) (σ 1 p * (r + 1)) ≤ i → J η 0 0 6 [(0, .ref (α 0 p)), (1, .int (nI s)), (2, .int (nI t)), (3, .int (nI i)), (4, .int (nI (i - fb_ct (s_lk σ p s t) (σ 1 p * (r + 1))))), (5, .int (nI (r + 1)))] []) → ∀ m c, c + m = σ 1 p → fb_ct (s_lk σ p s t) (σ 1 p * r + c) ≤ i → J η 0 0 18 [(0, .ref (α 0 p)), (1, .int (nI s)), (2, .int (nI t)), (3, .int (nI i)), (4, .int (nI (i - fb_ct (s_lk σ p s t) (σ 1 p * r + c)))), (5, .int (nI r)), (6, .int (nI c))] [] := by
    intro r hr hout m
    induction m with
    | zero =>
      intro c hc hle
      refine run [(6, 6)] 20 ?_
      refine ⟨_, h0, fun c1 => ?_, fun c1 => ?_⟩
      · rw [show σ 1 p * r + c = σ 1 p * (r + 1) by rw [Nat.mul_add]; omega] at hle ⊢
        have hout := hout hle
        rw [← nI_add r 1] at hout
        exact hout
      · rw [cb_ge, iN (by omega), iN (by omega)] at c1
        omega
    | succ m ih =>
      intro c hc hle
      refine run [(18, 7)] 60 ?_
      refine ⟨_, h0, fun c1 => ?_, fun c1 => ?_⟩
      · rw [cb_ge, iN (by omega), iN (by omega)] at c1
        omega
      refine ⟨_, h0, 0, 0, _, c_isLike h hok r c s t hr (by omega) hs ht, Nat.le_refl _, Nat.le_refl _, fun v η' hv => ?_⟩
      obtain ⟨rfl, rfl⟩ := hv
      have ih := ih (c + 1) (by omega)
      have e1 : s_lk σ p s t (σ 1 p * r + c) = (decide (s_edge σ p r c = t) && s_shb σ p (8 * r + c) s) := by
        unfold s_lk
        rw [dm_div (by omega), dm_mod (by omega)]
      rw [← Nat.add_assoc, fb_ct_succ, e1, ← nI_add c 1] at ih
      refine ⟨fun c2 => ?_, fun c2 => ?_⟩
      · rw [b01_eq0 c2] at ih
        exact ih hle
      · rw [b01_ne0 c2, if_pos rfl] at ih
        refine ⟨fun c3 => ?_, fun c3 => ?_⟩
        · rw [cb_ne, i0, iN (by omega)] at c3
          have ih := ih (by omega)
          rw [show i - fb_ct (s_lk σ p s t) (σ 1 p * r + c) = i - (fb_ct (s_lk σ p s t) (σ 1 p * r + c) + 1) + 1 by omega]
          rw [← pk_m1 (i - (fb_ct (s_lk σ p s t) (σ 1 p * r + c) + 1))] at ih
          exact ih
        · rw [cb_ne, i0, iN (by omega)] at c3
          refine ⟨0, 0, _, c_placeAt η' _ _, Nat.le_refl _, Nat.le_refl _, fun v η'' hv => ?_⟩
          obtain ⟨rfl, rfl⟩ := hv
          refine ⟨trivial, ⟨⟨σ 1 p * r + c, ?_, e1.trans (b01_ne0 c2), by omega, ?_⟩, rfl⟩, Nat.zero_le _, Nat.zero_le _⟩
          · calc σ 1 p * r + c < σ 1 p * r + σ 1 p := by omega
              _ = σ 1 p * (r + 1) := by rw [Nat.mul_add, Nat.mul_one]
              _ ≤ σ 1 p * σ 0 p := Nat.mul_le_mul_left _ hr
          · rw [dm_div (by omega), dm_mod (by omega), pl8]
  have outer : ∀ m r, r + m = σ 0 p → fb_ct (s_lk σ p s t) (σ 1 p * r) ≤ i → J η 0 0 6 [(0, .ref (α 0 p)), (1, .int (nI s)), (2, .int (nI t)), (3, .int (nI i)), (4, .int (nI (i - fb_ct (s_lk σ p s t) (σ 1 p * r)))), (5, .int (nI r))] [] := by
    intro m
    induction m with
    | zero =>
      intro r hr hle
      rw [show r = σ 0 p by omega] at hle
      unfold s_lkn at hi
      omega
    | succ m ih =>
      intro r hr hle
      refine run [(18, 7)] 20 ?_
      refine ⟨_, h0, fun c1 => ?_, fun c1 => ?_⟩
      · rw [cb_ge, iN (by omega), iN (by omega)] at c1
        omega
      · exact inner r (by omega) (ih (r + 1) (by omega)) (σ 1 p) 0 (by omega) hle
  refine run [(6, 6)] 20 ?_
  exact outer (σ 0 p) 0 (by omega) (Nat.zero_le _)
