/-! THE CHECK: where a stamp can be from -/
def h_run (σ : jj_S) (p n : Nat) : Nat := σ 3 (5 * (10 * p + n / 2) + (3 + n % 2))
def h_c (σ : jj_S) (p q s : Nat) : Nat → Bool
  | 0 => decide (s_fl σ p q 0 = s)
  | n + 1 => h_c σ p q s n || (decide (h_run σ p n < 1000) && decide (s_fl σ p q (h_run σ p n) = s))
theorem h_c_iff {σ : jj_S} {p q s : Nat} : ∀ n, h_c σ p q s n = true ↔ s_fl σ p q 0 = s ∨ ∃ k, k < n ∧ h_run σ p k < 1000 ∧ s_fl σ p q (h_run σ p k) = s
  | 0 => by
    show decide _ = true ↔ _
    rw [decide_eq_true_eq]
    constructor
    · exact Or.inl
    · rintro (h | ⟨k, hk, -⟩)
      · exact h
      · exact absurd hk (Nat.not_lt_zero _)
  | n + 1 => by
    show (h_c σ p q s n || _) = true ↔ _
    rw [Bool.or_eq_true, h_c_iff n, Bool.and_eq_true, decide_eq_true_eq, decide_eq_true_eq]
    constructor
    · rintro ((h | ⟨k, hk, h⟩) | ⟨h1, h2⟩)
      · exact Or.inl h
      · exact Or.inr ⟨k, by omega, h⟩
      · exact Or.inr ⟨n, by omega, h1, h2⟩
    · rintro (h | ⟨k, hk, h1, h2⟩)
      · exact Or.inl (Or.inl h)
      · by_cases z : k = n
        · subst z
          exact Or.inr ⟨h1, h2⟩
        · exact Or.inl (Or.inr ⟨k, by omega, h1, h2⟩)
theorem h_c_all {σ : jj_S} {p q s : Nat} : h_c σ p q s (2 * σ 2 p) = s_shb σ p q s := by
  rw [Bool.eq_iff_iff, h_c_iff, s_shb_iff]
  constructor
  · rintro (h | ⟨k, hk, h1, h2⟩)
    · exact ⟨0, by decide, h⟩
    · exact ⟨_, h1, h2⟩
  · intro h
    obtain ⟨r, hr, e⟩ := s_bd_shown.mp h
    rcases hr with rfl | ⟨j, j1, j2, j3, j4⟩
    · exact Or.inl e
    · rcases j3 with j3 | j3
      · have e2 : h_run σ p (2 * j) = r := by
          unfold h_run
          rw [show 2 * j / 2 = j by omega, show 2 * j % 2 = 0 by omega]
          exact j3.symm
        exact Or.inr ⟨2 * j, by omega, by rw [e2]; exact j4, by rw [e2]; exact e⟩
      · have e2 : h_run σ p (2 * j + 1) = r := by
          unfold h_run
          rw [show (2 * j + 1) / 2 = j by omega, show (2 * j + 1) % 2 = 1 by omega]
          exact j3.symm
        exact Or.inr ⟨2 * j + 1, by omega, by rw [e2]; exact j4, by rw [e2]; exact e⟩
theorem c_canHave {Y : Nat → Nat} {σ : jj_S} {th : Int32} {η : jj_H} (h : m_rep Y σ th η) (p r c s : Nat) (hp : p < 6) (hok : s_okp σ p) (hr : r < 8) (hc : c < 8) (hs : s < 32) : jj_Ht mX7_canHave [.ref (Y 0), .int (nI p), .int (nI r), .int (nI c), .int (nI s)] η 0 0 (fun v η' => v = some (.int (b01 (s_shb σ p (8 * r + c) s))) ∧ η' = η) := by
  obtain ⟨-, -, h0, h1, h2, h3, h4, -⟩ := id h
  have hlt := hok.1
  have e5 : (nI 5).toInt = 5 := rfl
  have e1000 : (nI 1000).toInt = 1000 := rfl
  have fl : ∀ x, s_fl σ p (8 * r + c) x < 32 := fun x => s_fl_lt hok _ _
  refine jj_lp tok_X7_canHave zok_X7 py_7 rfl fun J run => ?_
  have inner : ∀ k, k < σ 2 p → J η 0 0 23 [(0, .ref (Y 0)), (1, .int (nI p)), (2, .int (nI r)), (3, .int (nI c)), (4, .int (nI s)), (5, .int (b01 (h_c σ p (8 * r + c) s (2 * k + 2)))), (6, .int (nI (k + 1)))] [] → ∀ m t, t + m = 2 → J η 0 0 37 [(0, .ref (Y 0)), (1, .int (nI p)), (2, .int (nI r)), (3, .int (nI c)), (4, .int (nI s)), (5, .int (b01 (h_c σ p (8 * r + c) s (2 * k + t)))), (6, .int (nI k)), (7, .int (nI (3 + t)))] [] := by
    intro k hk hout m
    induction m with
    | zero =>
      intro t ht
      have ht : t = 2 := ht
      subst ht
      refine run [(23, 7)] 20 ?_
      refine ⟨fun c1 => ?_, fun c1 => ?_⟩
      · rw [← nI_add] at hout
        exact hout
      · exact absurd (cb_ge.mpr (Int.le_refl _)) c1
    | succ m ih =>
      intro t ht
      have ih := ih (t + 1) (by omega)
      rw [← Nat.add_assoc, ← Nat.add_assoc, ← nI_add] at ih
      obtain ⟨o1, o2, o3, o4, o5⟩ := hok.2 k hk
      have ru : σ 3 (5 * (10 * p + k) + (3 + t)) = h_run σ p (2 * k + t) := by
        unfold h_run
        rw [show (2 * k + t) / 2 = k by omega, show (2 * k + t) % 2 = t by omega]
      have rb : h_run σ p (2 * k + t) < 2147483648 := by
        rw [← ru]
        rcases (show t = 0 ∨ t = 1 by omega) with rfl | rfl
        · exact Nat.lt_trans o4 o5
        · exact o5
      have st : h_c σ p (8 * r + c) s (2 * k + t + 1) = (h_c σ p (8 * r + c) s (2 * k + t) || (decide (h_run σ p (2 * k + t) < 1000) && decide (s_fl σ p (8 * r + c) (h_run σ p (2 * k + t)) = s))) := rfl
      have fx := fl (h_run σ p (2 * k + t))
      have cf := c_flawsAt h p r c (h_run σ p (2 * k + t)) hp hok hc hr rb
      rw [← ru] at cf
      refine run [(37, 8)] 80 ?_
      refine ⟨fun c1 => ?_, fun c1 => ?_⟩
      · rw [cb_ge, e5, iN (by omega)] at c1
        omega
      refine ⟨_, h0, _, _, 5 * (10 * p + k) + (3 + t), h4, ix5e _ _ _, by omega, fun c2 => ?_, fun c2 => ⟨fun c3 => ?_, fun c3 => ⟨_, h0, 0, 0, _, cf, Nat.le_refl _, Nat.le_refl _, fun v η' hv => ?_⟩⟩⟩
      · rw [show b01 (h_c σ p (8 * r + c) s (2 * k + t + 1)) = nI 1 by rw [st, b01_ne0 c2]; rfl] at ih
        exact ih
      · have c2 := b01_eq0 (Classical.not_not.mp c2)
        rw [cb_ge, e1000, ru, iN (by omega)] at c3
        rw [show b01 (h_c σ p (8 * r + c) s (2 * k + t + 1)) = 0 by rw [st, c2, decide_eq_false (by omega)]; rfl] at ih
        exact ih
      · obtain ⟨rfl, rfl⟩ := hv
        have c2 := b01_eq0 (Classical.not_not.mp c2)
        rw [cb_ge, e1000, ru, iN (by omega)] at c3
        refine ⟨fun c4 => ?_, fun c4 => ?_⟩
        · rw [cb_ne, iN (by rw [ru]; omega), iN (by omega), ru] at c4
          rw [show b01 (h_c σ p (8 * r + c) s (2 * k + t + 1)) = 0 by rw [st, c2, decide_eq_false (show ¬ s_fl σ p (8 * r + c) (h_run σ p (2 * k + t)) = s by omega), Bool.and_false]; rfl] at ih
          exact ih
        · rw [cb_ne, iN (by rw [ru]; omega), iN (by omega), ru] at c4
          rw [show b01 (h_c σ p (8 * r + c) s (2 * k + t + 1)) = nI 1 by rw [st, decide_eq_true (show h_run σ p (2 * k + t) < 1000 by omega), decide_eq_true (show s_fl σ p (8 * r + c) (h_run σ p (2 * k + t)) = s by omega), Bool.and_true, Bool.or_true]; rfl] at ih
          exact ih
  have loop : ∀ m k, k + m = σ 2 p → J η 0 0 23 [(0, .ref (Y 0)), (1, .int (nI p)), (2, .int (nI r)), (3, .int (nI c)), (4, .int (nI s)), (5, .int (b01 (h_c σ p (8 * r + c) s (2 * k)))), (6, .int (nI k))] [] := by
    intro m
    induction m with
    | zero =>
      intro k hk
      refine run [] 20 ?_
      refine ⟨_, h0, _, _, p, h3, rfl, hp, fun c1 => ?_, fun c1 => ?_⟩
      · rw [show k = σ 2 p by omega, h_c_all]
        exact ⟨b01_01 _, ⟨rfl, rfl⟩, Nat.zero_le _, Nat.zero_le _⟩
      · rw [cb_ge, iN (by omega), iN (by omega)] at c1
        omega
    | succ m ih =>
      intro k hk
      have ih := ih (k + 1) (by omega)
      rw [show 2 * (k + 1) = 2 * k + 2 by omega] at ih
      refine run [(37, 8)] 30 ?_
      refine ⟨_, h0, _, _, p, h3, rfl, hp, fun c1 => ?_, fun c1 => ?_⟩
      · rw [cb_ge, iN (by omega), iN (by omega)] at c1
        omega
      · exact inner k (by omega) ih 2 0 rfl
  refine run [(23, 7)] 60 ?_
  refine ⟨_, h0, 0, 0, _, c_flawsAt h p r c 0 hp hok hc hr (by decide), Nat.le_refl _, Nat.le_refl _, fun v η' hv => ?_⟩
  obtain ⟨rfl, rfl⟩ := hv
  have l := loop (σ 2 p) 0 (by omega)
  have f0 := fl 0
  refine ⟨fun c1 => ?_, fun c1 => ?_⟩
  · rw [cb_ne, iN (by omega), iN (by omega)] at c1
    rw [show b01 (h_c σ p (8 * r + c) s (2 * 0)) = 0 by rw [show h_c σ p (8 * r + c) s (2 * 0) = decide (s_fl σ p (8 * r + c) 0 = s) from rfl, decide_eq_false (by omega)]; rfl] at l
    exact l
  · rw [cb_ne, iN (by omega), iN (by omega)] at c1
    rw [show b01 (h_c σ p (8 * r + c) s (2 * 0)) = nI 1 by rw [show h_c σ p (8 * r + c) s (2 * 0) = decide (s_fl σ p (8 * r + c) 0 = s) from rfl, decide_eq_true (by omega)]; rfl] at l
    exact l
