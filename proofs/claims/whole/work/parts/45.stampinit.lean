/-! WHAT IS MADE: stamps, the album -/
theorem c_remX (η : jj_H) (x : Int32) (a b : Nat) (hx : x = nI a) (ha : a < 2147483648) (h0 : 0 < b) (hb : b < 2147483648) : jj_Ht mX6_remainder [.int x, .int (nI b)] η 0 0 (fun v η' => v = some (.int (nI (a % b))) ∧ η' = η) := by
  rw [hx]
  exact c_remainder η a b ha h0 hb
theorem c_stamp_init (η : jj_H) (a sh b pa A B z R C W H S4 S5 r c : Nat) (n x : Int32) (v2 v8 w2 w3 w4 : Value) (h : η a = some (x_o 5 (jj_def 5))) (hs : η sh = some (x_o 4 [.ref b, .ref pa, v2, .int (nI z), .int (nI S4), .int (nI S5), .int (nI A), .int (nI B), v8])) (hb : η b = some (x_o 3 [.int (nI R), .int (nI C), w2, w3, w4])) (hp : η pa = some (x_o 2 [.int x, .int (nI W), .int (nI H)])) (hA : A ≤ 16) (hB : B ≤ 16) (hA5 : 1 ≤ A) (hB5 : 1 ≤ B) (hR : R ≤ 8) (hC : C ≤ 8) (hr : r < R) (hc : c < C) (hW : 1 ≤ W ∧ W ≤ 4) (hH : 1 ≤ H ∧ H ≤ 4) (h4 : S4 ≤ 3) (h5 : S5 ≤ 3) (nsa : sh ≠ a) (nba : b ≠ a) (npa : pa ≠ a) :
    jj_Ht mX5_init [.ref a, .int n, .ref sh, .int (nI r), .int (nI c)] η 1 4 (fun v η' => v = none ∧ ∃ t F, η t = none ∧ η' a = some (x_o 5 [.int n, .ref sh, .int (nI r), .int (nI c), .int (nI ((r + S4) % H)), .int (nI ((c + S5) % W)), .ref t, .int (-1)]) ∧ η' t = some (x_i 4 F) ∧ (∀ d, d < 4 → F d = nI (s_prt R C z (s_al A B d) r c d)) ∧ ∀ y, y ≠ a → y ≠ t → η' y = η y) := by
  refine jj_lp tok_X5_init zok_X5 py_5 rfl fun J run => ?_
  have e4 : (nI 4).toInt = 4 := rfl
  have loop : ∀ t, η t = none → ∀ m i, i + m = 4 → ∀ (η' : jj_H) (F : Nat → Int32), η' a = some (x_o 5 [.int n, .ref sh, .int (nI r), .int (nI c), .int (nI ((r + S4) % H)), .int (nI ((c + S5) % W)), .ref t, .int (-1)]) → η' t = some (x_i 4 F) → (∀ d, d < i → F d = nI (s_prt R C z (s_al A B d) r c d)) → (∀ y, y ≠ a → y ≠ t → η' y = η y) → J η' (0 + 1) (0 + 4) 81 [(0, .ref a), (1, .int n), (2, .ref sh), (3, .int (nI r)), (4, .int (nI c)), (5, .int (nI i))] [] := by
    intro t nt m
    have nta : a ≠ t := fun z => by rw [z, nt] at h; cases h
    have nts : sh ≠ t := fun z => by rw [z, nt] at hs; cases hs
    have ntb : b ≠ t := fun z => by rw [z, nt] at hb; cases hb
    induction m with
    | zero =>
      intro i hi η' F k1 k2 k3 k4
      refine run [] 20 ?_
      refine ⟨_, k1, _, _, _, k2, fun c1 => ?_, fun c1 => ?_⟩
      · exact ⟨⟨rfl, t, F, nt, k1, k2, by rw [show i = 4 by omega] at k3; exact k3, k4⟩, by decide, by decide⟩
      · rw [cb_ge, e4, iN (by omega)] at c1
        omega
    | succ m ih =>
      intro i hi η' F k1 k2 k3 k4
      refine run [(81, 6)] 30 ?_
      refine ⟨_, k1, _, _, _, k2, fun c1 => ?_, fun c1 => ?_⟩
      · rw [cb_ge, e4, iN (by omega)] at c1
        omega
      refine ⟨_, k1, _, (k4 sh nsa nts).trans hs, 0, 0, _, c_printedTeeth η' sh b A B z R C r c i _ _ _ _ _ _ _ _ ((k4 sh nsa nts).trans hs) ((k4 b nba ntb).trans hb) hA hB hA5 hB5 hR hC hr hc (by omega), by decide, by decide, fun v η'' hv => ?_⟩
      obtain ⟨rfl, rfl⟩ := hv
      refine ⟨_, _, i, k2, rfl, by omega, ?_⟩
      have ih := ih (i + 1) (by omega) (jj_up η'' t (x_i 4 (upd F i (nI (s_prt R C z (s_al A B i) r c i))))) (upd F i (nI (s_prt R C z (s_al A B i) r c i))) (by rw [up_n nta]; exact k1) up_s (fun j hj => by
        by_cases y : j = i
        · subst y; exact pk_us
        · rw [pk_un y]; exact k3 j (by omega)) (fun y y1 y2 => by rw [up_n y2]; exact k4 y y1 y2)
      rw [← nI_add] at ih
      exact ih
  refine run [(81, 6)] 80 ?_
  refine ⟨4, rfl, by decide, by decide, by decide, fun t nt => ?_⟩
  have nta : a ≠ t := fun z => by rw [z, nt] at h; cases h
  have nts : sh ≠ t := fun z => by rw [z, nt] at hs; cases hs
  have ntp : pa ≠ t := fun z => by rw [z, nt] at hp; cases hp
  refine ⟨_, (up_n nta).trans h, _, up_s, _, up_s, _, up_s, _, up_s, _, up_s, ?_⟩
  have fs : ∀ (η' : jj_H) (e1 e2 e3 e4 e5 e6 : va_E) (y : Nat), y ≠ a → jj_up (jj_up (jj_up (jj_up (jj_up (jj_up η' a e1) a e2) a e3) a e4) a e5) a e6 y = η' y := fun η' e1 e2 e3 e4 e5 e6 y hy => by
    rw [up_n hy, up_n hy, up_n hy, up_n hy, up_n hy, up_n hy]
  have gs : ∀ (y : Nat) (e0 e1 e2 e3 e4 e5 e6 : va_E), y ≠ a → y ≠ t → jj_up (jj_up (jj_up (jj_up (jj_up (jj_up (jj_up η t e0) a e1) a e2) a e3) a e4) a e5) a e6 y = η y := fun y e0 e1 e2 e3 e4 e5 e6 hy hy2 => (fs _ _ _ _ _ _ _ y hy).trans (up_n hy2)
  refine ⟨_, (gs sh _ _ _ _ _ _ _ nsa nts).trans hs, _, (gs sh _ _ _ _ _ _ _ nsa nts).trans hs, _, (gs pa _ _ _ _ _ _ _ npa ntp).trans hp, 0, 0, _, c_remX _ _ (r + S4) H (nI_add r S4) (by omega) (by omega) (by omega), by decide, by decide, fun v η' hv => ?_⟩
  obtain ⟨rfl, rfl⟩ := hv
  refine ⟨_, up_s, ?_⟩
  refine ⟨_, (up_n nsa).trans ((gs sh _ _ _ _ _ _ _ nsa nts).trans hs), _, (up_n nsa).trans ((gs sh _ _ _ _ _ _ _ nsa nts).trans hs), _, (up_n npa).trans ((gs pa _ _ _ _ _ _ _ npa ntp).trans hp), 0, 0, _, c_remX _ _ (c + S5) W (nI_add c S5) (by omega) (by omega) (by omega), by decide, by decide, fun v η' hv => ?_⟩
  obtain ⟨rfl, rfl⟩ := hv
  refine ⟨_, up_s, ?_⟩
  refine loop t nt 4 0 rfl _ (fun _ => 0) up_s ?_ (fun j hj => absurd hj (Nat.not_lt_zero j)) ?_
  · rw [up_n (Ne.symm nta), up_n (Ne.symm nta), fs _ _ _ _ _ _ _ t (Ne.symm nta)]
    exact up_s
  · intro y y1 y2
    rw [up_n y1, up_n y1, gs y _ _ _ _ _ _ _ y1 y2]
