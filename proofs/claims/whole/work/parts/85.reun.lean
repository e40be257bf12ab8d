/-! REUNITED, ON BOTH SIDES -/
abbrev jj_Dv (M : jj_M) (J : jj_K) : Prop := ∀ {η : jj_H} {k n pc : Nat} {ls : jj_L} {st : List Value} {x y : UInt64}, decode (jj_code M) pc = .ok (.ddiv, 1) → vf_n64 (FP.ddiv x y) → J η k n (pc + 1) ls (.double (FP.ddiv x y) :: st) → J η k n pc ls (.double y :: .double x :: st)
theorem jj_dv {M : jj_M} {RC RS : Nat} {x : jj_X} (hC : jj_Cx M RC RS x) : jj_Dv M (jj_J x) := by
  intro η k n pc ls st u v hd hn h
  obtain ⟨p, l, e, R, s, m, args, below, meth, c, Q, D, tyc, A⟩ := x
  obtain ⟨hx, hb, -⟩ := hC
  intro ws H locs lsA hi hP hD hS hl
  exact lv_ddiv hx hb hd hn (h ws H locs lsA hi hP hD hS hl)
/-- a method that divides -/
theorem jj_ld {M : jj_M} {Z : jj_E} {T : jj_T} (hT : jj_Tok M Z T) (hZ : jj_Zok (jj_nm M).cls Z) (hy : plainName (jj_nm M).cls = true) {as : List Value} {η : jj_H} {mc ms : Nat} {post : Option Value → jj_H → Prop} (hn : Nat.ble (lg_sl as).length (jj_mx M) = true)
    (body : ∀ J : jj_K, jj_Rn Z T mc ms post (fun _ _ => False) J → jj_Dv M J → jj_fc (jj_ar 0 as) (fun ls => J η 0 0 0 ls [])) : jj_Ht M as η mc ms post :=
  jj_Ht.of hy (Nat.le_of_ble_eq_true hn) fun x hC hE => by
    have h9 := body (jj_J x) (fun S f {_ _ _ _ _ _} h => jj_sound hC hE hZ hT (jj_run3 S hC hE hZ hT f) _ _ _ _ _ _ h) (jj_dv hC)
    rw [jj_fc_eq] at h9
    rw [jj_ar_eq]
    exact h9
/-- the share of b in a: 0 if b is 0 -/
def s_shr (a b : Nat) : UInt64 := if b = 0 then FP.dconst0 else FP.ddiv (FP.i2d (nI a)) (FP.i2d (nI b))
theorem f_reunited {X : Nat → Nat} {α : Nat → Nat → Nat} {τ : Nat → Nat} {σ : jj_S} {η : jj_H} (h : x_rep X α τ σ η) : jj_Ht mX6_reunited [.ref (X 0)] η 0 0 (fun v η' => v = some (.double (s_shr (k_pr σ (σ 12 3)) (s_fp σ (σ 12 3)))) ∧ η' = η) := by
  have h0 := h.2.2.1
  have hn : σ 12 3 ≤ 40 := h.1.1.2.2.2
  have hp := s_fp_le σ (σ 12 3) hn
  have hq := k_pr_le σ (σ 12 3)
  have d23 : decode (jj_code mX6_reunited) 23 = .ok (.ddiv, 1) := by decide +kernel
  refine jj_ld tok_X6_reunited zok_X6 py_6 rfl fun J run dv => ?_
  refine run [] 16 ?_
  refine ⟨_, h0, 0, 0, _, c_fittingPairs h, Nat.le_refl _, Nat.le_refl _, fun v η' hv => ?_⟩
  obtain ⟨rfl, rfl⟩ := hv
  refine ⟨fun c1 => ?_, fun c1 => ?_⟩
  · have hb : s_fp σ (σ 12 3) ≠ 0 := fun z => by
      rw [z] at c1
      exact absurd c1 (by rw [cb_ne]; decide)
    refine ⟨_, h0, _, h.2.2.2.2.2.2.2.1.1, 0, 0, _, c_pairs0 h, Nat.le_refl _, Nat.le_refl _, fun v η'' hv => ?_⟩
    obtain ⟨rfl, rfl⟩ := hv
    rw [e_5 h.1]
    refine dv d23 (d_num (by omega) (by omega) hb) ?_
    refine run [] 4 ?_
    refine ⟨⟨?_, rfl⟩, Nat.le_refl _, Nat.le_refl _⟩
    unfold s_shr
    rw [if_neg hb]
  · have hb : s_fp σ (σ 12 3) = 0 := by
      rw [cb_ne, Classical.not_not, iN (by omega)] at c1
      have : (0 : Int32).toInt = 0 := rfl
      omega
    refine ⟨⟨?_, rfl⟩, Nat.le_refl _, Nat.le_refl _⟩
    unfold s_shr
    rw [if_pos hb]
/-! the check's count of what may hang together -/
def r_u (σ : jj_S) (a b : Nat) : Nat := if s_jn σ a b then 1 else 0
def r_v (σ : jj_S) (a b : Nat) : Nat := if a < b then r_u σ a b else 0
theorem s_fpr_sm (σ : jj_S) (b s : Nat) : ∀ n, s_fpr σ b s n = s + sm (fun a => r_u σ a b) n
  | 0 => rfl
  | n + 1 => by
    have ih := s_fpr_sm σ b s n
    show (if s_jn σ n b then s_fpr σ b s n + 1 else s_fpr σ b s n) = s + (sm (fun a => r_u σ a b) n + r_u σ n b)
    unfold r_u at ih ⊢
    split <;> omega
theorem sm_cut (w : Nat → Nat) (n : Nat) : ∀ d, sm (fun a => if a < n then w a else 0) (n + d) = sm w n
  | 0 => sm_cong fun k hk => if_pos hk
  | d + 1 => by
    show sm (fun a => if a < n then w a else 0) (n + d) + (if n + d < n then w (n + d) else 0) = _
    rw [sm_cut w n d, if_neg (by omega), Nat.add_zero]
theorem s_fp_sm (σ : jj_S) (N : Nat) : ∀ n, n ≤ N → sm (fun a => sm (fun b => r_v σ a b) n) N = s_fp σ n
  | 0, _ => by
    have : ∀ N, sm (fun a => sm (fun b => r_v σ a b) 0) N = 0 := fun N => by
      induction N with
      | zero => rfl
      | succ N ih => exact ih
    exact this N
  | n + 1, h => by
    have ih := s_fp_sm σ N n (by omega)
    show sm (fun a => sm (fun b => r_v σ a b) n + r_v σ a n) N = s_fpr σ n (s_fp σ n) n
    rw [← sm_add, ih, s_fpr_sm]
    obtain ⟨d, rfl⟩ : ∃ d, N = n + d := ⟨N - n, by omega⟩
    exact congrArg _ (sm_cut (fun a => r_u σ a n) n d)
theorem r_v_z (σ : jj_S) (a : Nat) : ∀ n, n ≤ a + 1 → sm (fun b => r_v σ a b) n = 0
  | 0, _ => rfl
  | n + 1, h => by
    show sm (fun b => r_v σ a b) n + r_v σ a n = 0
    rw [r_v_z σ a n (by omega), Nat.zero_add]
    exact if_neg (by omega)
theorem r_v_le (σ : jj_S) (a : Nat) : ∀ n, sm (fun b => r_v σ a b) n ≤ n
  | 0 => Nat.le_refl _
  | n + 1 => by
    have := r_v_le σ a n
    have : r_v σ a n ≤ 1 := by
      unfold r_v r_u
      split
      · split <;> omega
      · omega
    show sm (fun b => r_v σ a b) n + r_v σ a n ≤ n + 1
    omega
theorem r_vv_le (σ : jj_S) (n : Nat) : ∀ a, sm (fun a => sm (fun b => r_v σ a b) n) a ≤ n * a
  | 0 => Nat.zero_le _
  | a + 1 => by
    have := r_vv_le σ n a
    have := r_v_le σ a n
    show sm (fun a => sm (fun b => r_v σ a b) n) a + sm (fun b => r_v σ a b) n ≤ n * (a + 1)
    rw [Nat.mul_add]
    omega
theorem r_v_1 {σ : jj_S} {a b : Nat} (h : a < b) (hk : k_pp σ false a b 4 = true) : r_v σ a b = 1 := by
  have e : s_jn σ a b = k_pp σ false a b 4 := s_jnn_k σ a b 4
  unfold r_v r_u
  rw [if_pos h, e, hk]
  rfl
theorem r_v_0 {σ : jj_S} {a b : Nat} (hk : k_pp σ false a b 4 = false) : r_v σ a b = 0 := by
  have e : s_jn σ a b = k_pp σ false a b 4 := s_jnn_k σ a b 4
  unfold r_v r_u
  rw [e, hk]
  split <;> rfl
theorem m_reunited {Y : Nat → Nat} {σ : jj_S} {th : Int32} {η : jj_H} (h : m_rep Y σ th η) (ok : s_ok σ) : jj_Ht mX7_reunited [.ref (Y 0)] η 0 0 (fun v η' => v = some (.double (s_shr (k_pr σ (σ 12 3)) (s_fp σ (σ 12 3)))) ∧ m_rep Y σ 0 η' ∧ m_fr Y η η') := by
  have h1 := h.th 0
  have h0 := h1.o
  have hn : σ 12 3 ≤ 40 := ok.1.2.2.2
  have hp := s_fp_le σ (σ 12 3) hn
  have hq := k_pr_le σ (σ 12 3)
  have e40 := r_vv_le σ (σ 12 3)
  have eS := s_fp_sm σ (σ 12 3) (σ 12 3) (Nat.le_refl _)
  have d74 : decode (jj_code mX7_reunited) 74 = .ok (.ddiv, 1) := by decide +kernel
  have hfr : m_fr Y η (jj_up η (Y 0) (m_o Y σ 0)) := m_fr.rf.y 0 (by decide)
  refine jj_ld tok_X7_reunited zok_X7 py_7 rfl fun J run dv => ?_
  have fin : ∀ n, n = s_fp σ (σ 12 3) → J (jj_up η (Y 0) (m_o Y σ 0)) 0 0 59 [(0, .ref (Y 0)), (1, .int (nI n))] [] := by
    rintro n rfl
    refine run [] 12 ?_
    refine ⟨fun c1 => ?_, fun c1 => ?_⟩
    · have hb : s_fp σ (σ 12 3) ≠ 0 := fun z => by
        rw [z] at c1
        exact absurd c1 (by rw [cb_ne]; decide)
      refine ⟨_, h0, 0, 0, _, c_pairs h1 ok, Nat.le_refl _, Nat.le_refl _, fun v η'' hv => ?_⟩
      obtain ⟨rfl, rfl⟩ := hv
      refine dv d74 (d_num (by omega) (by omega) hb) ?_
      refine run [] 4 ?_
      refine ⟨⟨?_, h1, hfr⟩, Nat.le_refl _, Nat.le_refl _⟩
      unfold s_shr
      rw [if_neg hb]
    · have hb : s_fp σ (σ 12 3) = 0 := by
        rw [cb_ne, Classical.not_not, iN (by omega)] at c1
        have : (0 : Int32).toInt = 0 := rfl
        omega
      refine ⟨⟨?_, h1, hfr⟩, Nat.le_refl _, Nat.le_refl _⟩
      unfold s_shr
      rw [if_pos hb]
  have inner : ∀ T a, a < σ 12 3 → T ≤ 1600 → J (jj_up η (Y 0) (m_o Y σ 0)) 0 0 9 [(0, .ref (Y 0)), (1, .int (nI (T + sm (fun b => r_v σ a b) (σ 12 3)))), (2, .int (nI (a + 1)))] [] → ∀ m b, b + m = σ 12 3 → a < b → J (jj_up η (Y 0) (m_o Y σ 0)) 0 0 21 [(0, .ref (Y 0)), (1, .int (nI (T + sm (fun b => r_v σ a b) b))), (2, .int (nI a)), (3, .int (nI b))] [] := by
    intro T a ha hT hout m
    rw [← nI_add a 1] at hout
    induction m with
    | zero =>
      intro b hb hab
      have hb : b = σ 12 3 := hb
      subst hb
      refine run [(9, 3)] 12 ?_
      exact ⟨_, h0, fun c1 => hout, fun c1 => absurd (cb_ge.mpr (Int.le_refl _)) c1⟩
    | succ m ih =>
      intro b hb hab
      have ih := ih (b + 1) (by omega) (by omega)
      rw [← nI_add b 1, show T + sm (fun b => r_v σ a b) (b + 1) = T + sm (fun b => r_v σ a b) b + r_v σ a b from (Nat.add_assoc _ _ _).symm] at ih
      refine run [(21, 4)] 40 ?_
      refine ⟨_, h0, fun c1 => ?_, fun c1 => ⟨_, h0, 0, 0, _, c_isPair h1 ok a b false 0 rfl ha (by omega), Nat.le_refl _, Nat.le_refl _, fun v η' hv => ?_⟩⟩
      · rw [cb_ge, iN (by omega), iN (by omega)] at c1
        omega
      obtain ⟨rfl, rfl⟩ := hv
      refine ⟨fun c2 => ?_, fun c2 => ?_⟩
      · rw [r_v_0 (b01_eq0 c2), Nat.add_zero, ← Int32.add_zero (nI (T + sm (fun b => r_v σ a b) b))] at ih
        exact ih
      · rw [r_v_1 hab (b01_ne0 c2), ← nI_add _ 1] at ih
        exact ih
  have outer : ∀ m a, a + m = σ 12 3 → J (jj_up η (Y 0) (m_o Y σ 0)) 0 0 9 [(0, .ref (Y 0)), (1, .int (nI (sm (fun a => sm (fun b => r_v σ a b) (σ 12 3)) a))), (2, .int (nI a))] [] := by
    intro m
    induction m with
    | zero =>
      intro a ha
      have ha : a = σ 12 3 := ha
      subst ha
      refine run [(59, 2)] 12 ?_
      exact ⟨_, h0, fun c1 => fin _ eS, fun c1 => absurd (cb_ge.mpr (Int.le_refl _)) c1⟩
    | succ m ih =>
      intro a ha
      have ih := ih (a + 1) (by omega)
      have hT := e40 a
      have hT : sm (fun a => sm (fun b => r_v σ a b) (σ 12 3)) a ≤ 1600 := by
        have : σ 12 3 * a ≤ 40 * 40 := Nat.mul_le_mul hn (by omega)
        omega
      have g := inner _ a (by omega) hT ih m (a + 1) (by omega) (by omega)
      rw [r_v_z σ a (a + 1) (Nat.le_refl _), Nat.add_zero, ← nI_add a 1] at g
      refine run [(21, 4)] 12 ?_
      refine ⟨_, h0, fun c1 => ?_, fun c1 => g⟩
      rw [cb_ge, iN (by omega), iN (by omega)] at c1
      omega
  refine run [(9, 3)] 20 ?_
  refine ⟨_, h.o, ?_⟩
  exact outer (σ 12 3) 0 (by omega)
