/-! WHAT IS MADE: flaws, papers, plates, sheets -/
theorem up_s {η : jj_H} {a : Nat} {e : va_E} : jj_up η a e a = some e := if_pos rfl
theorem up_n {η : jj_H} {a b : Nat} {e : va_E} (h : b ≠ a) : jj_up η a e b = η b := if_neg h
theorem up_none {η : jj_H} {a b : Nat} {e : va_E} (h : jj_up η a e b = none) : b ≠ a ∧ η b = none := by
  unfold jj_up at h
  by_cases hb : b = a
  · rw [if_pos hb] at h
    cases h
  · rw [if_neg hb] at h
    exact ⟨hb, h⟩
theorem c_flaw_init (η : jj_H) (a : Nat) (x1 x2 x3 x4 y1 y2 y3 y4 : Int32) (h : η a = some (x_o 1 [.int y1, .int y2, .int y3, .int y4])) : jj_Ht mX1_init [.ref a, .int x1, .int x2, .int x3, .int x4] η 0 0 (fun v η' => v = none ∧ η' a = some (x_o 1 [.int x1, .int x2, .int x3, .int x4]) ∧ ∀ b, b ≠ a → η' b = η b) := by
  refine jj_go tok_X1_init zok_X1 py_1 rfl 40 fun J => ?_
  exact ⟨_, h, _, up_s, _, up_s, _, up_s, ⟨rfl, up_s, fun b hb => by rw [up_n hb, up_n hb, up_n hb, up_n hb]⟩, Nat.zero_le _, Nat.zero_le _⟩
theorem c_paper_init (η : jj_H) (a : Nat) (x1 x2 x3 y1 y2 y3 : Int32) (h : η a = some (x_o 2 [.int y1, .int y2, .int y3])) : jj_Ht mX2_init [.ref a, .int x1, .int x2, .int x3] η 0 0 (fun v η' => v = none ∧ η' a = some (x_o 2 [.int x1, .int x2, .int x3]) ∧ ∀ b, b ≠ a → η' b = η b) := by
  refine jj_go tok_X2_init zok_X2 py_2 rfl 40 fun J => ?_
  exact ⟨_, h, _, up_s, _, up_s, ⟨rfl, up_s, fun b hb => by rw [up_n hb, up_n hb, up_n hb]⟩, Nat.zero_le _, Nat.zero_le _⟩
theorem c_sheet_init (η : jj_H) (a pl pa : Nat) (rn sd : Int32) (h : η a = some (x_o 4 (jj_def 4))) : jj_Ht mX4_init [.ref a, .ref pl, .ref pa, .int rn, .int sd] η 0 0 (fun v η' => v = none ∧ η' a = some (x_o 4 [.ref pl, .ref pa, .int rn, .int sd, .int (nI 0), .int (nI 0), .int (nI 10), .int (nI 10), .long (lN 0)]) ∧ ∀ b, b ≠ a → η' b = η b) := by
  refine jj_go tok_X4_init zok_X4 py_4 rfl 60 fun J => ?_
  exact ⟨_, h, _, up_s, _, up_s, _, up_s, _, up_s, _, up_s, _, up_s, _, up_s, _, up_s, ⟨rfl, up_s, fun b hb => by rw [up_n hb, up_n hb, up_n hb, up_n hb, up_n hb, up_n hb, up_n hb, up_n hb, up_n hb]⟩, Nat.zero_le _, Nat.zero_le _⟩
theorem c_plate_init (η : jj_H) (a : Nat) (R C : Int32) (h : η a = some (x_o 3 (jj_def 3))) : jj_Ht mX3_init [.ref a, .int R, .int C] η 2 74 (fun v η' => v = none ∧ ∃ q1 q2 f, η q1 = none ∧ η q2 = none ∧ q1 ≠ q2 ∧ η' a = some (x_o 3 [.int R, .int C, .ref q1, .int 0, .ref q2]) ∧ η' q1 = some (x_r 7 10 (fun _ => none)) ∧ η' q2 = some (x_i 64 f) ∧ (∀ j, j < 64 → f j = nI 1) ∧ ∀ b, b ≠ a → b ≠ q1 → b ≠ q2 → η' b = η b) := by
  refine jj_lp tok_X3_init zok_X3 py_3 rfl fun J run => ?_
  have e64 : (nI 64).toInt = 64 := rfl
  have loop : ∀ q1 q2, η q1 = none → η q2 = none → q1 ≠ q2 → ∀ m i, i + m = 64 → ∀ (η' : jj_H) (f : Nat → Int32), η' a = some (x_o 3 [.int R, .int C, .ref q1, .int 0, .ref q2]) → η' q1 = some (x_r 7 10 (fun _ => none)) → η' q2 = some (x_i 64 f) → (∀ j, j < i → f j = nI 1) → (∀ b, b ≠ a → b ≠ q1 → b ≠ q2 → η' b = η b) → J η' (0 + 1 + 1) (0 + 10 + 64) 38 [(0, .ref a), (1, .int R), (2, .int C), (3, .int (nI i))] [] := by
    intro q1 q2 n1 n2 n12 m
    have na1 : a ≠ q1 := fun z => by rw [z, n1] at h; cases h
    have na2 : a ≠ q2 := fun z => by rw [z, n2] at h; cases h
    induction m with
    | zero =>
      intro i hi η' f k1 k2 k3 k4 k5
      refine run [] 20 ?_
      refine ⟨_, k1, _, _, _, k3, fun c1 => ?_, fun c1 => ?_⟩
      · exact ⟨⟨rfl, q1, q2, f, n1, n2, n12, k1, k2, k3, by rw [show i = 64 by omega] at k4; exact k4, k5⟩, by decide, by decide⟩
      · rw [cb_ge, e64, iN (by omega)] at c1
        omega
    | succ m ih =>
      intro i hi η' f k1 k2 k3 k4 k5
      refine run [(38, 4)] 30 ?_
      refine ⟨_, k1, _, _, _, k3, fun c1 => ?_, fun c1 => ?_⟩
      · rw [cb_ge, e64, iN (by omega)] at c1
        omega
      refine ⟨_, k1, _, _, i, k3, rfl, by omega, ?_⟩
      have ih := ih (i + 1) (by omega) (jj_up η' q2 (x_i 64 (upd f i (nI 1)))) (upd f i (nI 1)) (by rw [up_n na2]; exact k1) (by rw [up_n n12]; exact k2) up_s (fun j hj => by
        by_cases z : j = i
        · subst z; exact pk_us
        · rw [pk_un z]; exact k4 j (by omega)) (fun b b1 b2 b3 => by rw [up_n b3]; exact k5 b b1 b2 b3)
      rw [← nI_add] at ih
      exact ih
  refine run [(38, 4)] 40 ?_
  refine ⟨10, rfl, by decide, by decide, by decide, fun q1 n1 => ?_⟩
  have na1 : a ≠ q1 := fun z => by rw [z, n1] at h; cases h
  refine ⟨_, (up_n na1).trans h, _, up_s, 64, rfl, by decide, by decide, by decide, fun q2 n2 => ?_⟩
  obtain ⟨m1, n2⟩ := up_none n2
  obtain ⟨m2, n2⟩ := up_none n2
  obtain ⟨m3, n2⟩ := up_none n2
  refine ⟨_, (up_n (Ne.symm m2)).trans up_s, _, up_s, _, up_s, ?_⟩
  refine loop q1 q2 n1 n2 (Ne.symm m3) 64 0 rfl _ (fun _ => 0) up_s ?_ ?_ (fun j hj => absurd hj (Nat.not_lt_zero j)) ?_
  · rw [up_n (Ne.symm na1), up_n (Ne.symm na1), up_n (Ne.symm na1), up_n (Ne.symm m3), up_n (Ne.symm na1), up_n (Ne.symm na1)]
    exact up_s
  · rw [up_n m1, up_n m1, up_n m1]
    exact up_s
  · intro b b1 b2 b3
    rw [up_n b1, up_n b1, up_n b1, up_n b3, up_n b1, up_n b1, up_n b2]
