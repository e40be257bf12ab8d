/-! THE FACE: THE DIGEST -/
def s_d1 (σ : jj_S) : Nat → Int64
  | 0 => 547
  | w + 1 => s_d1 σ w * 31 + (s_cnt σ w).toInt64
def s_d2 (σ : jj_S) (k : Nat) (d : Int64) : Nat → Int64
  | 0 => d
  | w + 1 => s_d2 σ k d w * 31 + (s_det σ k w).toInt64
def s_d3 (σ : jj_S) : Nat → Int64
  | 0 => s_d1 σ 12
  | k + 1 => if k < σ 12 3 then s_d2 σ k (s_d3 σ k) 11 * 31 + (nI (s_orn σ k 6)).toInt64 else s_d3 σ k
theorem f_digest {X : Nat → Nat} {α : Nat → Nat → Nat} {τ : Nat → Nat} {σ : jj_S} {η : jj_H} (h : x_rep X α τ σ η) : jj_Ht mX6_digest [.ref (X 0)] η 0 0 (fun v η' => v = some (.long (s_d3 σ 40)) ∧ g_V X η η') := by
  have e40 : (nI 40).toInt = 40 := rfl
  have e12 : (nI 12).toInt = 12 := rfl
  have e11 : (nI 11).toInt = 11 := rfl
  refine jj_lp tok_X6_digest zok_X6 py_6 rfl fun J run => ?_
  have inner : ∀ η1, g_V X η η1 → ∀ k, k < σ 12 3 → J η1 0 0 43 [(0, .ref (X 0)), (1, .long (s_d3 σ (k + 1))), (3, .ref (X 4)), (4, .int (nI 40)), (5, .int (nI (k + 1)))] [] → ∀ m w, w + m = 11 → J η1 0 0 64 [(0, .ref (X 0)), (1, .long (s_d2 σ k (s_d3 σ k) w)), (3, .ref (X 4)), (4, .int (nI 40)), (5, .int (nI k)), (6, .ref (α 6 k)), (7, .int (nI w))] [] := by
    intro η1 hw k hk hout m
    have h1 := h.gW hw
    have h0 := h1.2.2.1
    obtain ⟨k1, -⟩ := h1.kk hk
    have e : s_d3 σ (k + 1) = s_d2 σ k (s_d3 σ k) 11 * 31 + (nI (s_orn σ k 6)).toInt64 := by
      conv => lhs; unfold s_d3
      rw [if_pos hk]
    rw [e, ← nI_add k 1] at hout
    induction m with
    | zero =>
      intro w hw2
      have hw2 : w = 11 := hw2
      refine run [(43, 5)] 40 ?_
      refine ⟨fun c1 => ⟨_, h0, 0, 0, _, c_originsOf h1 k hk, Nat.le_refl _, Nat.le_refl _, fun v η2 hv => ?_⟩, fun c1 => ?_⟩
      · obtain ⟨rfl, rfl⟩ := hv
        rw [hw2]
        exact hout
      · rw [cb_ge, e11, iN (by omega)] at c1
        omega
    | succ m ih =>
      intro w hw2
      have ih := ih (w + 1) (by omega)
      rw [← nI_add w 1] at ih
      refine run [(64, 7)] 40 ?_
      refine ⟨fun c1 => ?_, fun c1 => ⟨_, k1, 0, 0, _, c_detail h1 k w hk (by omega), Nat.le_refl _, Nat.le_refl _, fun v η2 hv => ?_⟩⟩
      · rw [cb_ge, e11, iN (by omega)] at c1
        omega
      obtain ⟨rfl, rfl⟩ := hv
      exact ih
  have mid : ∀ η1, g_V X η η1 → ∀ m k, k + m = 40 → J η1 0 0 43 [(0, .ref (X 0)), (1, .long (s_d3 σ k)), (3, .ref (X 4)), (4, .int (nI 40)), (5, .int (nI k))] [] := by
    intro η1 hw m
    have h1 := h.gW hw
    obtain ⟨f, hf, hff⟩ := h1.2.2.2.2.2.2.1
    induction m with
    | zero =>
      intro k hk
      have hk : k = 40 := hk
      refine run [] 20 ?_
      refine ⟨fun c1 => ?_, fun c1 => ?_⟩
      · rw [hk]
        exact ⟨⟨rfl, hw⟩, Nat.zero_le _, Nat.zero_le _⟩
      · rw [cb_ge, e40, iN (by omega)] at c1
        omega
    | succ m ih =>
      intro k hk
      have ih := ih (k + 1) (by omega)
      by_cases hin : k < σ 12 3
      · refine run [(64, 7)] 40 ?_
        refine ⟨fun c1 => ?_, fun c1 => ⟨_, _, _, k, some (α 6 k), hf, rfl, by omega, by rw [hff k (by omega), if_pos hin], ?_⟩⟩
        · rw [cb_ge, e40, iN (by omega)] at c1
          omega
        exact inner η1 hw k hin ih 11 0 rfl
      · have e : s_d3 σ (k + 1) = s_d3 σ k := by
          conv => lhs; unfold s_d3
          rw [if_neg hin]
        rw [e, ← nI_add k 1] at ih
        refine run [(43, 5)] 40 ?_
        refine ⟨fun c1 => ?_, fun c1 => ⟨_, _, _, k, none, hf, rfl, by omega, by rw [hff k (by omega), if_neg hin], ih⟩⟩
        rw [cb_ge, e40, iN (by omega)] at c1
        omega
  have first : ∀ m w, w + m = 12 → ∀ η1, g_V X η η1 → J η1 0 0 6 [(0, .ref (X 0)), (1, .long (s_d1 σ w)), (3, .int (nI w))] [] := by
    intro m
    induction m with
    | zero =>
      intro w hw2 η1 hw
      have hw2 : w = 12 := hw2
      have h1 := h.gW hw
      obtain ⟨f, hf, hff⟩ := h1.2.2.2.2.2.2.1
      refine run [(43, 5)] 40 ?_
      refine ⟨fun c1 => ⟨_, h1.2.2.1, _, _, _, hf, ?_⟩, fun c1 => ?_⟩
      · rw [hw2]
        exact mid η1 hw 40 0 rfl
      · rw [cb_ge, e12, iN (by omega)] at c1
        omega
    | succ m ih =>
      intro w hw2 η1 hw
      have h1 := h.gW hw
      have ih := ih (w + 1) (by omega)
      rw [← nI_add w 1] at ih
      refine run [(6, 3)] 40 ?_
      refine ⟨fun c1 => ?_, fun c1 => ⟨_, h1.2.2.1, 0, 0, _, c_countOf h1 w (by omega), Nat.le_refl _, Nat.le_refl _, fun v η2 hv => ?_⟩⟩
      · rw [cb_ge, e12, iN (by omega)] at c1
        omega
      obtain ⟨rfl, hw3⟩ := hv
      exact ih η2 (hw.tr hw3)
  refine run [(6, 3)] 20 ?_
  exact first 12 0 rfl η h.gv
