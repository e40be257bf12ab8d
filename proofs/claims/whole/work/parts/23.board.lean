/-! THE ALBUM AS A BOARD OF BITS -/
def b_tkn (σ : jj_S) : Nat → Nat
  | 0 => 0
  | n + 1 => match s_at σ n with
    | none => b_tkn σ n
    | some _ => b_tkn σ n ||| 2 ^ n
/-- the places that are taken -/
def b_tk (σ : jj_S) : Nat := b_tkn σ 64
theorem b_tkn_lt (σ : jj_S) : ∀ n, b_tkn σ n < 2 ^ n
  | 0 => Nat.zero_lt_one
  | n + 1 => by
    have ih := b_tkn_lt σ n
    have h2 : 2 ^ n < 2 ^ (n + 1) := Nat.pow_lt_pow_right (by decide) (by omega)
    unfold b_tkn
    split
    · omega
    · exact Nat.or_lt_two_pow (by omega) h2
theorem b_tk_lt (σ : jj_S) : b_tk σ < 2 ^ 64 := b_tkn_lt σ 64
theorem b_tkn_bit (σ : jj_S) (q : Nat) : ∀ n, (b_tkn σ n).testBit q = (decide (q < n) && (s_at σ q).isSome)
  | 0 => by simp [b_tkn]
  | n + 1 => by
    have ih := b_tkn_bit σ q n
    unfold b_tkn
    split
    next hn =>
      rw [ih]
      rcases Nat.lt_trichotomy q n with z | z | z
      · simp [z, Nat.lt_succ_of_lt z]
      · subst z; simp [hn]
      · have z1 : ¬ q < n := by omega
        have z2 : ¬ q < n + 1 := by omega
        simp [z1, z2]
    next j hn =>
      rw [fb_bit_set, ih]
      rcases Nat.lt_trichotomy q n with z | z | z
      · have z1 : ¬ q = n := by omega
        simp [z, Nat.lt_succ_of_lt z, z1]
      · subst z; simp [hn]
      · have z1 : ¬ q < n := by omega
        have z2 : ¬ q < n + 1 := by omega
        have z3 : ¬ q = n := by omega
        simp [z1, z2, z3]
theorem b_tk_bit (σ : jj_S) {q : Nat} (hq : q < 64) : (b_tk σ).testBit q = (s_at σ q).isSome := by
  unfold b_tk
  rw [b_tkn_bit]
  simp [hq]
theorem l_one : (1 : Int64) = lN 1 := rfl
theorem c_taken {X : Nat → Nat} {α : Nat → Nat → Nat} {τ : Nat → Nat} {σ : jj_S} {η : jj_H} (h : x_rep X α τ σ η) : jj_Ht mX0_taken [.ref (X 5)] η 0 0 (fun v η' => v = some (.long (lN (b_tk σ))) ∧ η' = η) := by
  obtain ⟨h1, f, h2, h3⟩ := h.album
  have e64 : (nI 64).toInt = 64 := rfl
  refine jj_lp tok_X0_taken zok_X0 py_0 rfl fun J run => ?_
  have loop : ∀ m i, i + m = 64 → J η 0 0 4 [(0, .ref (X 5)), (1, .long (lN (b_tkn σ i))), (3, .int (nI i))] [] := by
    intro m
    induction m with
    | zero =>
      intro i hi
      refine run [] 20 ?_
      refine ⟨_, h1, _, _, _, h2, fun c1 => ?_, fun c1 => ?_⟩
      · rw [show i = 64 by omega]
        exact ⟨⟨rfl, rfl⟩, Nat.zero_le _, Nat.zero_le _⟩
      · rw [cb_ge, e64, iN (by omega)] at c1
        omega
    | succ m ih =>
      intro i hi
      refine run [(4, 3)] 40 ?_
      have ih := ih (i + 1) (by omega)
      rw [← nI_add i 1] at ih
      refine ⟨_, h1, _, _, _, h2, fun c1 => ?_, fun c1 => ⟨_, h1, _, _, _, i, (s_at σ i).map (α 6), h2, rfl, by omega, h3 _ (by omega), ?_⟩⟩
      · rw [cb_ge, e64, iN (by omega)] at c1
        omega
      cases hs : s_at σ i with
      | none =>
        have e : b_tkn σ (i + 1) = b_tkn σ i := by
          conv => lhs; unfold b_tkn
          rw [hs]
        rw [e] at ih
        exact ih
      | some k =>
        have e : b_tkn σ (i + 1) = b_tkn σ i ||| 2 ^ i := by
          conv => lhs; unfold b_tkn
          rw [hs]
        rw [e, ← fb_orL, ← Nat.one_mul (2 ^ i), ← wb_shl 1 (show i < 64 by omega)] at ih
        exact ih
  refine run [(4, 3)] 20 ?_
  exact loop 64 0 rfl
theorem c_bitCountX (η : jj_H) (x : Int64) (t : Nat) (hx : x = lN t) (ht : t < 2 ^ 64) : jj_Ht mJ13_bitCount_95d88 [.long x] η 0 0 (fun v η' => v = some (.int (nI (popc t))) ∧ η' = η) := by
  subst hx
  exact c_bitCountL η t ht
theorem c_mountedStamps {X : Nat → Nat} {α : Nat → Nat → Nat} {τ : Nat → Nat} {σ : jj_S} {η : jj_H} (h : x_rep X α τ σ η) : jj_Ht mX0_mountedStamps [.ref (X 5)] η 0 0 (fun v η' => v = some (.int (nI (popc (b_tk σ)))) ∧ η' = η) := by
  obtain ⟨h1, -⟩ := h.album
  refine jj_go tok_X0_mountedStamps zok_X0 py_0 rfl 20 fun J => ?_
  refine ⟨_, h1, 0, 0, _, c_taken h, Nat.le_refl _, Nat.le_refl _, fun v η' hv => ?_⟩
  obtain ⟨rfl, rfl⟩ := hv
  refine ⟨0, 0, _, c_bitCountL η' _ (b_tk_lt σ), Nat.le_refl _, Nat.le_refl _, fun v η'' hv => ?_⟩
  obtain ⟨rfl, rfl⟩ := hv
  exact ⟨trivial, ⟨rfl, rfl⟩, Nat.zero_le _, Nat.zero_le _⟩
/-- all places but the last column; but the first -/
def b_LC : Nat := 9187201950435737471
def b_FC : Nat := 18374403900871474942
def b_tr (t : Nat) : Nat := (t &&& (t / 2)) &&& b_LC
theorem b_tr_lt {t : Nat} (h : t < 2 ^ 64) : b_tr t < 2 ^ 64 := Nat.lt_of_le_of_lt (Nat.le_trans Nat.and_le_left Nat.and_le_left) h
theorem c_takenWithRight (η : jj_H) (t : Nat) (ht : t < 2 ^ 64) : jj_Ht mX0_takenWithRight [.long (lN t)] η 0 0 (fun v η' => v = some (.long (lN (b_tr t))) ∧ η' = η) := by
  refine jj_go tok_X0_takenWithRight zok_X0 py_0 rfl 20 fun J => ?_
  refine ⟨⟨?_, rfl⟩, Nat.zero_le _, Nat.zero_le _⟩
  rw [lN_sh ht (by omega), show (9187201950435737471 : Int64) = lN b_LC from rfl, fb_andL, fb_andL]
  rfl
def b_prs (t : Nat) : Nat := popc (b_tr t) + popc (t &&& t / 256)
def b_blk (t : Nat) : Nat := popc (b_tr t &&& b_tr t / 256)
theorem and_lt64 {a b : Nat} (h : a < 2 ^ 64) : a &&& b < 2 ^ 64 := Nat.lt_of_le_of_lt Nat.and_le_left h
theorem c_pairs0 {X : Nat → Nat} {α : Nat → Nat → Nat} {τ : Nat → Nat} {σ : jj_S} {η : jj_H} (h : x_rep X α τ σ η) : jj_Ht mX0_pairs [.ref (X 5)] η 0 0 (fun v η' => v = some (.int (nI (b_prs (b_tk σ)))) ∧ η' = η) := by
  obtain ⟨h1, -⟩ := h.album
  have ht := b_tk_lt σ
  refine jj_go tok_X0_pairs zok_X0 py_0 rfl 40 fun J => ?_
  refine ⟨_, h1, 0, 0, _, c_taken h, Nat.le_refl _, Nat.le_refl _, fun v η' hv => ?_⟩
  obtain ⟨rfl, rfl⟩ := hv
  refine ⟨0, 0, _, c_takenWithRight η' _ ht, Nat.le_refl _, Nat.le_refl _, fun v η'' hv => ?_⟩
  obtain ⟨rfl, rfl⟩ := hv
  refine ⟨0, 0, _, c_bitCountL η'' _ (b_tr_lt ht), Nat.le_refl _, Nat.le_refl _, fun v η' hv => ?_⟩
  obtain ⟨rfl, rfl⟩ := hv
  have ex : lN (b_tk σ) &&& ((lN (b_tk σ)).toUInt64 >>> ((nI 8).toInt64.toUInt64 &&& Int64.toUInt64 63)).toInt64 = lN (b_tk σ &&& b_tk σ / 256) := by rw [lN_sh ht (by omega), fb_andL]
  refine ⟨0, 0, _, c_bitCountX η' _ _ ex (and_lt64 ht), Nat.le_refl _, Nat.le_refl _, fun v η'' hv => ?_⟩
  obtain ⟨rfl, rfl⟩ := hv
  refine ⟨trivial, ⟨?_, rfl⟩, Nat.zero_le _, Nat.zero_le _⟩
  rw [nI_add]
  rfl
theorem c_blocks0 {X : Nat → Nat} {α : Nat → Nat → Nat} {τ : Nat → Nat} {σ : jj_S} {η : jj_H} (h : x_rep X α τ σ η) : jj_Ht mX0_blocks [.ref (X 5)] η 0 0 (fun v η' => v = some (.int (nI (b_blk (b_tk σ)))) ∧ η' = η) := by
  obtain ⟨h1, -⟩ := h.album
  have ht := b_tk_lt σ
  refine jj_go tok_X0_blocks zok_X0 py_0 rfl 40 fun J => ?_
  refine ⟨_, h1, 0, 0, _, c_taken h, Nat.le_refl _, Nat.le_refl _, fun v η' hv => ?_⟩
  obtain ⟨rfl, rfl⟩ := hv
  refine ⟨0, 0, _, c_takenWithRight η' _ ht, Nat.le_refl _, Nat.le_refl _, fun v η'' hv => ?_⟩
  obtain ⟨rfl, rfl⟩ := hv
  have ex : lN (b_tr (b_tk σ)) &&& ((lN (b_tr (b_tk σ))).toUInt64 >>> ((nI 8).toInt64.toUInt64 &&& Int64.toUInt64 63)).toInt64 = lN (b_tr (b_tk σ) &&& b_tr (b_tk σ) / 256) := by rw [lN_sh (b_tr_lt ht) (by omega), fb_andL]
  refine ⟨0, 0, _, c_bitCountX η'' _ _ ex (and_lt64 (b_tr_lt ht)), Nat.le_refl _, Nat.le_refl _, fun v η' hv => ?_⟩
  obtain ⟨rfl, rfl⟩ := hv
  exact ⟨trivial, ⟨rfl, rfl⟩, Nat.zero_le _, Nat.zero_le _⟩
/-- the places beside those of p -/
def b_nb (p : Nat) : Nat := ((p * 256 % 2 ^ 64 ||| p / 256) ||| (p &&& b_LC) * 2 % 2 ^ 64) ||| (p &&& b_FC) / 2
theorem b_nb_lt {p : Nat} (hp : p < 2 ^ 64) : b_nb p < 2 ^ 64 := by
  refine Nat.or_lt_two_pow (Nat.or_lt_two_pow (Nat.or_lt_two_pow (Nat.mod_lt _ (by decide)) ?_) (Nat.mod_lt _ (by decide))) ?_
  · exact Nat.lt_of_le_of_lt (Nat.div_le_self _ _) hp
  · exact Nat.lt_of_le_of_lt (Nat.div_le_self _ _) (and_lt64 hp)
theorem c_placesBeside (η : jj_H) (p : Nat) (hp : p < 2 ^ 64) : jj_Ht mX0_placesBeside [.long (lN p)] η 0 0 (fun v η' => v = some (.long (lN (b_nb p))) ∧ η' = η) := by
  refine jj_go tok_X0_placesBeside zok_X0 py_0 rfl 40 fun J => ?_
  refine ⟨⟨?_, rfl⟩, Nat.zero_le _, Nat.zero_le _⟩
  have k1 : (9187201950435737471 : Int64) = lN b_LC := rfl
  have k2 : (-72340172838076674 : Int64) = lN b_FC := by decide +kernel
  rw [k1, k2, wb_shl p (show 8 < 64 by omega), lN_sh hp (show 8 < 64 by omega), fb_andL, wb_shl _ (show 1 < 64 by omega), fb_andL, lN_sh (and_lt64 hp) (show 1 < 64 by omega), wb_mod (p * 2 ^ 8), wb_mod ((p &&& b_LC) * 2 ^ 1), fb_orL, fb_orL, fb_orL]
  rfl
/-- a cluster after n steps -/
def b_cl (s l : Nat) : Nat → Nat
  | 0 => s
  | n + 1 => b_cl s l n ||| (b_nb (b_cl s l n) &&& l)
theorem b_cl_lt {s l : Nat} (hs : s < 2 ^ 64) (hl : l < 2 ^ 64) : ∀ n, b_cl s l n < 2 ^ 64
  | 0 => hs
  | n + 1 => Nat.or_lt_two_pow (b_cl_lt hs hl n) (Nat.lt_of_le_of_lt Nat.and_le_right hl)
theorem c_clusterFrom (η : jj_H) (s l : Nat) (hs : s < 2 ^ 64) (hl : l < 2 ^ 64) : jj_Ht mX0_clusterFrom [.long (lN s), .long (lN l)] η 0 0 (fun v η' => v = some (.long (lN (b_cl s l 64))) ∧ η' = η) := by
  have e64 : (nI 64).toInt = 64 := rfl
  refine jj_lp tok_X0_clusterFrom zok_X0 py_0 rfl fun J run => ?_
  have loop : ∀ m i, i + m = 64 → J η 0 0 6 [(0, .long (lN s)), (2, .long (lN l)), (4, .long (lN (b_cl s l i))), (6, .int (nI i))] [] := by
    intro m
    induction m with
    | zero =>
      intro i hi
      refine run [] 20 ?_
      refine ⟨fun c1 => ?_, fun c1 => ?_⟩
      · rw [show i = 64 by omega]
        exact ⟨⟨rfl, rfl⟩, Nat.zero_le _, Nat.zero_le _⟩
      · rw [cb_ge, e64, iN (by omega)] at c1
        omega
    | succ m ih =>
      intro i hi
      refine run [(6, 4)] 40 ?_
      have ih := ih (i + 1) (by omega)
      have e : lN (b_cl s l (i + 1)) = lN (b_cl s l i) ||| (lN (b_nb (b_cl s l i)) &&& lN l) := by
        rw [fb_andL, fb_orL]
        rfl
      rw [← nI_add i 1, e] at ih
      refine ⟨fun c1 => ?_, fun c1 => ⟨0, 0, _, c_placesBeside η _ (b_cl_lt hs hl i), Nat.le_refl _, Nat.le_refl _, fun v η' hv => ?_⟩⟩
      · rw [cb_ge, e64, iN (by omega)] at c1
        omega
      obtain ⟨rfl, rfl⟩ := hv
      exact ih
  refine run [(6, 4)] 20 ?_
  exact loop 64 0 rfl
theorem c_clusterX (η : jj_H) (x : Int64) (s l : Nat) (hx : x = lN s) (hs : s < 2 ^ 64) (hl : l < 2 ^ 64) : jj_Ht mX0_clusterFrom [.long x, .long (lN l)] η 0 0 (fun v η' => v = some (.long (lN (b_cl s l 64))) ∧ η' = η) := by
  subst hx
  exact c_clusterFrom η s l hs hl
/-- over the first n places: what is left, and the largest cluster -/
def b_lc (t : Nat) : Nat → Nat × Nat
  | 0 => (t, 0)
  | n + 1 => if (b_lc t n).1.testBit n then ((b_lc t n).1 &&& (b_cl (2 ^ n) (b_lc t n).1 64 ^^^ (2 ^ 64 - 1)), max (b_lc t n).2 (popc (b_cl (2 ^ n) (b_lc t n).1 64))) else b_lc t n
theorem b_lc_lt {t : Nat} (ht : t < 2 ^ 64) : ∀ n, (b_lc t n).1 < 2 ^ 64 ∧ (b_lc t n).2 ≤ 64
  | 0 => ⟨ht, Nat.zero_le _⟩
  | n + 1 => by
    have ih := b_lc_lt ht n
    unfold b_lc
    split
    · exact ⟨and_lt64 ih.1, Nat.max_le.mpr ⟨ih.2, popc_le _⟩⟩
    · exact ih
theorem i_max {a b : Nat} (ha : a < 2 ^ 31) (hb : b < 2 ^ 31) : (if nI a < nI b then nI b else nI a) = nI (max a b) := by
  by_cases c : nI a < nI b
  · rw [if_pos c]
    rw [i_lt, iN ha, iN hb] at c
    rw [Nat.max_eq_right (by omega)]
  · rw [if_neg c]
    rw [i_lt, iN ha, iN hb] at c
    rw [Nat.max_eq_left (by omega)]
theorem c_largestCluster {X : Nat → Nat} {α : Nat → Nat → Nat} {τ : Nat → Nat} {σ : jj_S} {η : jj_H} (h : x_rep X α τ σ η) : jj_Ht mX0_largestCluster [.ref (X 5)] η 0 0 (fun v η' => v = some (.int (nI (b_lc (b_tk σ) 64).2)) ∧ η' = η) := by
  obtain ⟨h1, -⟩ := h.album
  have ht := b_tk_lt σ
  have e64 : (nI 64).toInt = 64 := rfl
  refine jj_lp tok_X0_largestCluster zok_X0 py_0 rfl fun J run => ?_
  have loop : ∀ m i, i + m = 64 → J η 0 0 10 [(0, .ref (X 5)), (1, .long (lN (b_lc (b_tk σ) i).1)), (3, .int (nI (b_lc (b_tk σ) i).2)), (4, .int (nI i))] [] := by
    intro m
    induction m with
    | zero =>
      intro i hi
      refine run [] 20 ?_
      refine ⟨fun c1 => ?_, fun c1 => ?_⟩
      · rw [show i = 64 by omega]
        exact ⟨trivial, ⟨rfl, rfl⟩, Nat.zero_le _, Nat.zero_le _⟩
      · rw [cb_ge, e64, iN (by omega)] at c1
        omega
    | succ m ih =>
      intro i hi
      refine run [(10, 4)] 60 ?_
      have ih := ih (i + 1) (by omega)
      rw [← nI_add i 1] at ih
      obtain ⟨hl, hb⟩ := b_lc_lt ht i
      refine ⟨fun c1 => ?_, fun c1 => ⟨fun c2 => ?_, fun c2 => ?_⟩⟩
      · rw [cb_ge, e64, iN (by omega)] at c1
        omega
      · rw [cb_ne, i0] at c2
        have c3 : ¬ (b_lc (b_tk σ) i).1.testBit i = true := fun z => c2 (by rw [(lg0 _ _).mpr ((l_bit hl (by omega)).mpr z)]; rfl)
        have e : b_lc (b_tk σ) (i + 1) = b_lc (b_tk σ) i := by
          conv => lhs; unfold b_lc
          rw [if_neg c3]
        rw [e] at ih
        exact ih
      · have c2 := Classical.not_not.mp c2
        have c2 := (lg0 _ _).mp c2
        have c3 := (l_bit hl (by omega)).mp c2
        have e : b_lc (b_tk σ) (i + 1) = ((b_lc (b_tk σ) i).1 &&& (b_cl (2 ^ i) (b_lc (b_tk σ) i).1 64 ^^^ (2 ^ 64 - 1)), max (b_lc (b_tk σ) i).2 (popc (b_cl (2 ^ i) (b_lc (b_tk σ) i).1 64))) := by
          conv => lhs; unfold b_lc
          rw [if_pos c3]
        have hp2 : 2 ^ i < 2 ^ 64 := Nat.pow_lt_pow_right (by decide) (by omega)
        have hc := b_cl_lt hp2 hl 64
        have hq := popc_le (b_cl (2 ^ i) (b_lc (b_tk σ) i).1 64)
        have e1 : (1 : Int64) <<< ((nI i).toInt64 &&& 63) = lN (2 ^ i) := by rw [l_one, wb_shl 1 (show i < 64 by omega), Nat.one_mul]
        have e2 : lN ((b_lc (b_tk σ) i).1 &&& (b_cl (2 ^ i) (b_lc (b_tk σ) i).1 64 ^^^ (2 ^ 64 - 1))) = lN (b_lc (b_tk σ) i).1 &&& (lN (b_cl (2 ^ i) (b_lc (b_tk σ) i).1 64) ^^^ (-1)) := by
          rw [show (-1 : Int64) = lN (2 ^ 64 - 1) from by decide +kernel, lN_xor, fb_andL]
        rw [e] at ih
        dsimp only at ih
        rw [e2, ← i_max (by omega) (by omega)] at ih
        refine ⟨0, 0, _, c_clusterX η _ _ _ e1 hp2 hl, Nat.le_refl _, Nat.le_refl _, fun v η' hv => ?_⟩
        obtain ⟨rfl, rfl⟩ := hv
        refine ⟨0, 0, _, c_bitCountL η' _ hc, Nat.le_refl _, Nat.le_refl _, fun v η'' hv => ?_⟩
        obtain ⟨rfl, rfl⟩ := hv
        exact ⟨Nat.zero_le _, Nat.zero_le _, ih⟩
  refine run [(10, 4)] 30 ?_
  refine ⟨_, h1, 0, 0, _, c_taken h, Nat.le_refl _, Nat.le_refl _, fun v η' hv => ?_⟩
  obtain ⟨rfl, rfl⟩ := hv
  exact loop 64 0 rfl
/-- the longest row of bits that hang together -/
def b_ls : Nat → Nat → Nat
  | 0, _ => 0
  | n + 1, x => if x = 0 then 0 else b_ls n (x &&& x / 2) + 1
theorem b_ls_le : ∀ n x, b_ls n x ≤ n
  | 0, _ => Nat.le_refl _
  | n + 1, x => by
    have ih := b_ls_le n (x &&& x / 2)
    unfold b_ls
    split <;> omega
theorem c_longestStretch (η : jj_H) (x : Nat) (hx : x < 2 ^ 31) : jj_Ht mX0_longestStretch [.int (nI x)] η 0 0 (fun v η' => v = some (.int (nI (b_ls 8 x))) ∧ η' = η) := by
  have e8 : (nI 8).toInt = 8 := rfl
  refine jj_lp tok_X0_longestStretch zok_X0 py_0 rfl fun J run => ?_
  have loop : ∀ m i y, i + m = 8 → y < 2 ^ 31 → b_ls 8 x = i + b_ls m y → J η 0 0 4 [(0, .int (nI x)), (1, .int (nI i)), (2, .int (nI y))] [] := by
    intro m
    induction m with
    | zero =>
      intro i y hi hy e
      refine run [] 20 ?_
      have e : b_ls 8 x = i := e
      refine ⟨fun c1 => ?_, fun c1 => ⟨fun c2 => ?_, fun c2 => ?_⟩⟩
      · exact ⟨trivial, ⟨by rw [e], rfl⟩, Nat.zero_le _, Nat.zero_le _⟩
      · exact ⟨trivial, ⟨by rw [e], rfl⟩, Nat.zero_le _, Nat.zero_le _⟩
      · rw [cb_ge, e8, iN (by omega)] at c2
        omega
    | succ m ih =>
      intro i y hi hy e
      have hy2 : y &&& y / 2 < 2 ^ 31 := Nat.lt_of_le_of_lt Nat.and_le_left hy
      have ih := ih (i + 1) (y &&& y / 2) (by omega) hy2
      have ey : nI (y &&& y / 2) = nI y &&& ((nI y).toUInt32 >>> ((nI 1).toUInt32 &&& Int32.toUInt32 31)).toInt32 := by
        rw [pk_ushrN (by omega) (nI 1) 1 (by decide), fa_and]
      rw [← nI_add i 1, ey] at ih
      refine run [(4, 3)] 40 ?_
      refine ⟨fun c1 => ?_, fun c1 => ⟨fun c2 => ?_, fun c2 => ?_⟩⟩
      · rw [cb_eq, i0, iN (by omega)] at c1
        have z : y = 0 := by omega
        have e : b_ls 8 x = i := by
          rw [e, z]
          rfl
        exact ⟨trivial, ⟨by rw [e], rfl⟩, Nat.zero_le _, Nat.zero_le _⟩
      · rw [cb_ge, e8, iN (by omega)] at c2
        omega
      · rw [cb_eq, i0, iN (by omega)] at c1
        have z : ¬ y = 0 := by omega
        refine ih ?_
        rw [e]
        conv => lhs; unfold b_ls
        rw [if_neg z]
        omega
  refine run [(4, 3)] 20 ?_
  exact loop 8 0 x rfl hx (by omega)
theorem c_longestX (η : jj_H) (y : Int32) (x : Nat) (hy : y = nI x) (hx : x < 2 ^ 31) : jj_Ht mX0_longestStretch [.int y] η 0 0 (fun v η' => v = some (.int (nI (b_ls 8 x))) ∧ η' = η) := by
  subst hy
  exact c_longestStretch η x hx
/-- the rows from top to top + n (not included) that are all taken -/
def b_cm (t top : Nat) : Nat → Nat
  | 0 => 255
  | n + 1 => b_cm t top n &&& (t / 2 ^ (8 * (top + n)))
theorem b_cm_lt (t top : Nat) : ∀ n, b_cm t top n ≤ 255
  | 0 => Nat.le_refl _
  | n + 1 => Nat.le_trans Nat.and_le_left (b_cm_lt t top n)
def b_rw (t top m : Nat) : Nat → Nat
  | 0 => m
  | n + 1 => max (b_rw t top m n) ((n + 1) * b_ls 8 (b_cm t top (n + 1)))
def b_rc (t : Nat) : Nat → Nat
  | 0 => 0
  | n + 1 => b_rw t n (b_rc t n) (8 - n)
theorem b_rw_le {t top m : Nat} (hm : m ≤ 64) : ∀ {n}, n ≤ 8 → b_rw t top m n ≤ 64
  | 0, _ => hm
  | n + 1, h => by
    have ih := b_rw_le (t := t) (top := top) hm (n := n) (by omega)
    have := b_ls_le 8 (b_cm t top (n + 1))
    have : (n + 1) * b_ls 8 (b_cm t top (n + 1)) ≤ 8 * 8 := Nat.mul_le_mul h this
    exact Nat.max_le.mpr ⟨ih, this⟩
theorem b_rc_le (t : Nat) : ∀ n, b_rc t n ≤ 64
  | 0 => Nat.zero_le _
  | n + 1 => b_rw_le (b_rc_le t n) (Nat.sub_le _ _)
theorem c_largestRectangle {X : Nat → Nat} {α : Nat → Nat → Nat} {τ : Nat → Nat} {σ : jj_S} {η : jj_H} (h : x_rep X α τ σ η) : jj_Ht mX0_largestRectangle [.ref (X 5)] η 0 0 (fun v η' => v = some (.int (nI (b_rc (b_tk σ) 8))) ∧ η' = η) := by
  obtain ⟨h1, -⟩ := h.album
  have ht := b_tk_lt σ
  have e8 : (nI 8).toInt = 8 := rfl
  refine jj_lp tok_X0_largestRectangle zok_X0 py_0 rfl fun J run => ?_
  have inner : ∀ top, top < 8 → J η 0 0 10 [(0, .ref (X 5)), (1, .long (lN (b_tk σ))), (3, .int (nI (b_rc (b_tk σ) (top + 1)))), (4, .int (nI (top + 1)))] [] → ∀ m n, top + n + m = 8 → J η 0 0 26 [(0, .ref (X 5)), (1, .long (lN (b_tk σ))), (3, .int (nI (b_rw (b_tk σ) top (b_rc (b_tk σ) top) n))), (4, .int (nI top)), (5, .int (nI (b_cm (b_tk σ) top n))), (6, .int (nI (top + n)))] [] := by
    intro top htop hout m
    rw [← nI_add top 1] at hout
    induction m with
    | zero =>
      intro n hn
      refine run [(10, 4)] 20 ?_
      refine ⟨fun c1 => ?_, fun c1 => ?_⟩
      · rw [show n = 8 - top by omega]
        exact hout
      · rw [cb_ge, e8, iN (by omega)] at c1
        omega
    | succ m ih =>
      intro n hn
      have hcm := b_cm_lt (b_tk σ) top (n + 1)
      have hls := b_ls_le 8 (b_cm (b_tk σ) top (n + 1))
      have hm1 : (n + 1) * b_ls 8 (b_cm (b_tk σ) top (n + 1)) ≤ 8 * 8 := Nat.mul_le_mul (by omega) hls
      have hw := b_rw_le (t := b_tk σ) (top := top) (b_rc_le (b_tk σ) top) (n := n) (by omega)
      have ih := ih (n + 1) (by omega)
      have ec : nI (b_cm (b_tk σ) top n) &&& ((lN (b_tk σ)).toUInt64 >>> ((nI (top + n) * nI 8).toInt64.toUInt64 &&& Int64.toUInt64 63)).toInt64.toInt32 = nI (b_cm (b_tk σ) top (n + 1)) := by
        rw [pk_mul, lN_sh ht (by omega), lN_i, fa_and, Nat.mul_comm (top + n) 8]
        rfl
      have ew : nI (b_rw (b_tk σ) top (b_rc (b_tk σ) top) (n + 1)) = if nI (b_rw (b_tk σ) top (b_rc (b_tk σ) top) n) < (nI (top + n) - nI top + nI 1) * nI (b_ls 8 (b_cm (b_tk σ) top (n + 1))) then (nI (top + n) - nI top + nI 1) * nI (b_ls 8 (b_cm (b_tk σ) top (n + 1))) else nI (b_rw (b_tk σ) top (b_rc (b_tk σ) top) n) := by
        rw [pk_sub (by omega), nI_add, pk_mul, show top + n - top = n by omega, i_max (by omega) (by omega)]
        rfl
      rw [ew, ← ec, ← Nat.add_assoc, ← nI_add (top + n) 1] at ih
      refine run [(26, 6)] 60 ?_
      refine ⟨fun c1 => ?_, fun c1 => ⟨0, 0, _, c_longestX η _ _ ec (by omega), Nat.le_refl _, Nat.le_refl _, fun v η' hv => ?_⟩⟩
      · rw [cb_ge, e8, iN (by omega)] at c1
        omega
      obtain ⟨rfl, rfl⟩ := hv
      exact ⟨Nat.zero_le _, Nat.zero_le _, ih⟩
  have outer : ∀ m top, top + m = 8 → J η 0 0 10 [(0, .ref (X 5)), (1, .long (lN (b_tk σ))), (3, .int (nI (b_rc (b_tk σ) top))), (4, .int (nI top))] [] := by
    intro m
    induction m with
    | zero =>
      intro top htop
      refine run [] 20 ?_
      refine ⟨fun c1 => ?_, fun c1 => ?_⟩
      · rw [show top = 8 by omega]
        exact ⟨trivial, ⟨rfl, rfl⟩, Nat.zero_le _, Nat.zero_le _⟩
      · rw [cb_ge, e8, iN (by omega)] at c1
        omega
    | succ m ih =>
      intro top htop
      refine run [(26, 6)] 20 ?_
      refine ⟨fun c1 => ?_, fun c1 => ?_⟩
      · rw [cb_ge, e8, iN (by omega)] at c1
        omega
      · exact inner top (by omega) (ih (top + 1) (by omega)) (8 - top) 0 (by omega)
  refine run [(10, 4)] 30 ?_
  refine ⟨_, h1, 0, 0, _, c_taken h, Nat.le_refl _, Nat.le_refl _, fun v η' hv => ?_⟩
  obtain ⟨rfl, rfl⟩ := hv
  exact outer 8 0 rfl
/-- what the album is worth, the first n places counted -/
def b_wo (σ : jj_S) : Nat → Int32
  | 0 => nI 5 * nI (b_prs (b_tk σ)) + nI 50 * nI (b_blk (b_tk σ))
  | n + 1 => match s_at σ n with
    | none => b_wo σ n
    | some k => b_wo σ n + s_price σ k
theorem c_worth {X : Nat → Nat} {α : Nat → Nat → Nat} {τ : Nat → Nat} {σ : jj_S} {η : jj_H} (h : x_rep X α τ σ η) : jj_Ht mX0_worth [.ref (X 5)] η 0 0 (fun v η' => v = some (.int (b_wo σ 64)) ∧ η' = η) := by
  obtain ⟨h1, f, h2, h3⟩ := h.album
  have e64 : (nI 64).toInt = 64 := rfl
  refine jj_lp tok_X0_worth zok_X0 py_0 rfl fun J run => ?_
  have loop : ∀ m i, i + m = 64 → J η 0 0 26 [(0, .ref (X 5)), (1, .int (b_wo σ i)), (2, .ref (X 7)), (3, .int (nI 64)), (4, .int (nI i))] [] := by
    intro m
    induction m with
    | zero =>
      intro i hi
      refine run [] 20 ?_
      refine ⟨fun c1 => ?_, fun c1 => ?_⟩
      · rw [show i = 64 by omega]
        exact ⟨trivial, ⟨rfl, rfl⟩, Nat.zero_le _, Nat.zero_le _⟩
      · rw [cb_ge, e64, iN (by omega)] at c1
        omega
    | succ m ih =>
      intro i hi
      refine run [(26, 5)] 60 ?_
      have ih := ih (i + 1) (by omega)
      rw [← nI_add i 1] at ih
      refine ⟨fun c1 => ?_, fun c1 => ⟨_, _, _, i, (s_at σ i).map (α 6), h2, rfl, by omega, h3 _ (by omega), ?_⟩⟩
      · rw [cb_ge, e64, iN (by omega)] at c1
        omega
      cases hs : s_at σ i with
      | none =>
        have e : b_wo σ (i + 1) = b_wo σ i := by
          conv => lhs; unfold b_wo
          rw [hs]
        rw [e] at ih
        exact ih
      | some k =>
        have e : b_wo σ (i + 1) = b_wo σ i + s_price σ k := by
          conv => lhs; unfold b_wo
          rw [hs]
        rw [e] at ih
        have hk := (s_at_some hs).1
        obtain ⟨k1, -⟩ := h.kk hk
        refine ⟨_, k1, 0, 0, _, c_price h k hk, Nat.le_refl _, Nat.le_refl _, fun v η' hv => ?_⟩
        obtain ⟨rfl, rfl⟩ := hv
        exact ih
  refine run [(26, 5)] 60 ?_
  refine ⟨_, h1, 0, 0, _, c_pairs0 h, Nat.le_refl _, Nat.le_refl _, fun v η' hv => ?_⟩
  obtain ⟨rfl, rfl⟩ := hv
  refine ⟨_, h1, 0, 0, _, c_blocks0 h, Nat.le_refl _, Nat.le_refl _, fun v η'' hv => ?_⟩
  obtain ⟨rfl, rfl⟩ := hv
  refine ⟨_, h1, _, _, _, h2, ?_⟩
  exact loop 64 0 rfl
