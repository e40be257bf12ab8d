/-! THE BUREAU AS NUMBERS: the check's own rows. 0 rows, 1 columns, 2 how many flaws, 3 flaws, 4 wide, 5 high, 6 sheets, 7 from, 8 row, 9 column, 10 teeth, 11 mounted (0: not; else the place and 1), 12 how many plates, papers, sheets, stamps -/
abbrev jj_S : Type := Nat → Nat → Nat
abbrev x_o (c : Nat) (fs : List Value) : va_E := .inr (c, fs)
abbrev x_i (n : Nat) (f : Nat → Int32) : va_E := .inl (0, n, .inl f)
abbrev x_r (t n : Nat) (f : Nat → Option Nat) : va_E := .inl (t, n, .inr (.inr (.inr (.inr f))))
/-- a place of the album as the Java has it: -1 if none -/
def mI (m : Nat) : Int32 := if m = 0 then -1 else nI (m - 1)
def s_pl (σ : jj_S) (k : Nat) : Nat := σ 6 (8 * σ 7 k)
def s_pa (σ : jj_S) (k : Nat) : Nat := σ 6 (8 * σ 7 k + 1)
def s_g (σ : jj_S) (k d : Nat) : Nat := σ 6 (8 * σ 7 k + (6 + d % 2))
def s_all (σ : jj_S) (k d : Nat) : Nat := 2 ^ s_g σ k d - 1
def s_mr (σ : jj_S) (k : Nat) : Nat := (σ 8 k + σ 6 (8 * σ 7 k + 4)) % σ 5 (s_pa σ k)
def s_mc (σ : jj_S) (k : Nat) : Nat := (σ 9 k + σ 6 (8 * σ 7 k + 5)) % σ 4 (s_pa σ k)
/-- is the flaw j of the plate p at the place q in the run r -/
def s_fl1 (σ : jj_S) (p q r j : Nat) : Bool := decide (8 * σ 3 (5 * (10 * p + j)) + σ 3 (5 * (10 * p + j) + 1) = q) && decide (σ 3 (5 * (10 * p + j) + 3) ≤ r) && decide (r < σ 3 (5 * (10 * p + j) + 4))
/-- the kinds of the first n flaws that are at a place in a run -/
def s_fln (σ : jj_S) (p q r : Nat) : Nat → Nat
  | 0 => 0
  | n + 1 => if s_fl1 σ p q r n then s_fln σ p q r n ||| 2 ^ σ 3 (5 * (10 * p + n) + 2) else s_fln σ p q r n
def s_fl (σ : jj_S) (p q r : Nat) : Nat := s_fln σ p q r (σ 2 p)
def s_flk (σ : jj_S) (k : Nat) : Nat := s_fl σ (s_pl σ k) (8 * σ 8 k + σ 9 k) (σ 6 (8 * σ 7 k + 2))
/-- which numbers stand in the bureau -/
def s_ok (σ : jj_S) : Prop :=
  (σ 12 0 ≤ 6 ∧ σ 12 1 ≤ 4 ∧ σ 12 2 ≤ 10 ∧ σ 12 3 ≤ 40) ∧
  (∀ p, p < σ 12 0 → (1 ≤ σ 0 p ∧ σ 0 p ≤ 8 ∧ 1 ≤ σ 1 p ∧ σ 1 p ≤ 8 ∧ σ 2 p ≤ 10) ∧ ∀ j, j < σ 2 p → σ 3 (5 * (10 * p + j)) < σ 0 p ∧ σ 3 (5 * (10 * p + j) + 1) < σ 1 p ∧ σ 3 (5 * (10 * p + j) + 2) ≤ 4 ∧ σ 3 (5 * (10 * p + j) + 3) < σ 3 (5 * (10 * p + j) + 4) ∧ σ 3 (5 * (10 * p + j) + 4) < 2147483648) ∧
  (∀ w, w < σ 12 1 → 1 ≤ σ 4 w ∧ σ 4 w ≤ 4 ∧ 1 ≤ σ 5 w ∧ σ 5 w ≤ 4) ∧
  (∀ s, s < σ 12 2 → σ 6 (8 * s) < σ 12 0 ∧ σ 6 (8 * s + 1) < σ 12 1 ∧ σ 6 (8 * s + 2) ≤ 999 ∧ σ 6 (8 * s + 3) ≤ 9999 ∧ σ 6 (8 * s + 4) ≤ 3 ∧ σ 6 (8 * s + 5) ≤ 3 ∧ (5 ≤ σ 6 (8 * s + 6) ∧ σ 6 (8 * s + 6) ≤ 16) ∧ 5 ≤ σ 6 (8 * s + 7) ∧ σ 6 (8 * s + 7) ≤ 16) ∧
  (∀ k, k < σ 12 3 → σ 7 k < σ 12 2 ∧ σ 8 k < σ 0 (s_pl σ k) ∧ σ 9 k < σ 1 (s_pl σ k) ∧ σ 11 k ≤ 64 ∧ ∀ d, d < 4 → σ 10 (4 * k + d) ≤ s_all σ k d) ∧
  (∀ j k, j < σ 12 3 → k < σ 12 3 → σ 11 j = σ 11 k → σ 11 j ≠ 0 → j = k) ∧
  (∀ j k, j < σ 12 3 → k < σ 12 3 → σ 7 j = σ 7 k → σ 8 j = σ 8 k → σ 9 j = σ 9 k → j = k)
/-- some run from 0 to 999 shows just the set s at the place q -/
def s_shown (σ : jj_S) (p q s : Nat) : Prop := ∃ r, r < 1000 ∧ s_fl σ p q r = s
/-- the things that the class has made, by kind: 0 plates, 1 their rows of flaws, 2 their rows of sets, 3 flaws, 4 papers, 5 sheets, 6 stamps, 7 their teeth -/
def s_live (σ : jj_S) (f i : Nat) : Prop := match f with
  | 0 => i < σ 12 0
  | 1 => i < σ 12 0
  | 2 => i < σ 12 0
  | 3 => i / 10 < σ 12 0 ∧ i % 10 < σ 2 (i / 10)
  | 4 => i < σ 12 1
  | 5 => i < σ 12 2
  | 6 => i < σ 12 3
  | 7 => i < σ 12 3
  | _ => False
/-- where the things lie, each thing at its own address: τ tells which one lies there -/
def x_tag (X : Nat → Nat) (α : Nat → Nat → Nat) (τ : Nat → Nat) (σ : jj_S) : Prop := (∀ j, j < 8 → τ (X j) = j) ∧ ∀ f i, s_live σ f i → τ (α f i) = 1000 * (f + 1) + i
def x_plate (α : Nat → Nat → Nat) (σ : jj_S) (η : jj_H) (p : Nat) : Prop :=
  η (α 0 p) = some (x_o 3 [.int (nI (σ 0 p)), .int (nI (σ 1 p)), .ref (α 1 p), .int (nI (σ 2 p)), .ref (α 2 p)]) ∧
  (∃ f, η (α 1 p) = some (x_r 7 10 f) ∧ ∀ j, j < 10 → f j = if j < σ 2 p then some (α 3 (10 * p + j)) else none) ∧
  (∃ f, η (α 2 p) = some (x_i 64 f) ∧ ∀ q, q < 64 → ∀ s, s < 32 → ((f q).toBitVec.getLsbD s = true ↔ s_shown σ p q s)) ∧
  ∀ j, j < σ 2 p → η (α 3 (10 * p + j)) = some (x_o 1 [.int (nI (8 * σ 3 (5 * (10 * p + j)) + σ 3 (5 * (10 * p + j) + 1))), .int (nI (σ 3 (5 * (10 * p + j) + 2))), .int (nI (σ 3 (5 * (10 * p + j) + 3))), .int (nI (σ 3 (5 * (10 * p + j) + 4)))])
def x_sheet (α : Nat → Nat → Nat) (σ : jj_S) (η : jj_H) (s : Nat) : Prop := ∃ t, t < 2 ^ 64 ∧
  η (α 5 s) = some (x_o 4 [.ref (α 0 (σ 6 (8 * s))), .ref (α 4 (σ 6 (8 * s + 1))), .int (nI (σ 6 (8 * s + 2))), .int (nI (σ 6 (8 * s + 3))), .int (nI (σ 6 (8 * s + 4))), .int (nI (σ 6 (8 * s + 5))), .int (nI (σ 6 (8 * s + 6))), .int (nI (σ 6 (8 * s + 7))), .long (lN t)]) ∧
  (∀ r c, r < 8 → c < 8 → (t.testBit (8 * r + c) = true ↔ ∃ k, k < σ 12 3 ∧ σ 7 k = s ∧ σ 8 k = r ∧ σ 9 k = c)) ∧ (t = 0 ↔ ∀ k, k < σ 12 3 → σ 7 k ≠ s)
def x_stamp (α : Nat → Nat → Nat) (σ : jj_S) (η : jj_H) (k : Nat) : Prop :=
  η (α 6 k) = some (x_o 5 [.int (nI k), .ref (α 5 (σ 7 k)), .int (nI (σ 8 k)), .int (nI (σ 9 k)), .int (nI (s_mr σ k)), .int (nI (s_mc σ k)), .ref (α 7 k), .int (mI (σ 11 k))]) ∧
  ∃ f, η (α 7 k) = some (x_i 4 f) ∧ ∀ d, d < 4 → f d = nI (σ 10 (4 * k + d))
def x_album (X : Nat → Nat) (α : Nat → Nat → Nat) (σ : jj_S) (η : jj_H) : Prop :=
  η (X 5) = some (x_o 0 [.ref (X 7)]) ∧
  ∃ f, η (X 7) = some (x_r 6 64 f) ∧ ∀ q, q < 64 → (∀ k, k < σ 12 3 → σ 11 k = q + 1 → f q = some (α 6 k)) ∧ ((∀ k, k < σ 12 3 → σ 11 k ≠ q + 1) → f q = none)
/-- THE CLASS's OBJECTS HOLD THE BUREAU σ -/
def x_rep (X : Nat → Nat) (α : Nat → Nat → Nat) (τ : Nat → Nat) (σ : jj_S) (η : jj_H) : Prop :=
  s_ok σ ∧ x_tag X α τ σ ∧
  η (X 0) = some (x_o 6 [.ref (X 1), .ref (X 2), .ref (X 3), .ref (X 4), .ref (X 5), .ref (X 6), .int (nI (σ 12 0)), .int (nI (σ 12 1)), .int (nI (σ 12 2)), .int (nI (σ 12 3))]) ∧
  (∃ f, η (X 1) = some (x_r 3 6 f) ∧ ∀ i, i < 6 → f i = if i < σ 12 0 then some (α 0 i) else none) ∧
  (∃ f, η (X 2) = some (x_r 4 4 f) ∧ ∀ i, i < 4 → f i = if i < σ 12 1 then some (α 4 i) else none) ∧
  (∃ f, η (X 3) = some (x_r 5 10 f) ∧ ∀ i, i < 10 → f i = if i < σ 12 2 then some (α 5 i) else none) ∧
  (∃ f, η (X 4) = some (x_r 6 40 f) ∧ ∀ i, i < 40 → f i = if i < σ 12 3 then some (α 6 i) else none) ∧
  x_album X α σ η ∧
  (∃ g, η (X 6) = some (x_i 40 g)) ∧
  (∀ p, p < σ 12 0 → x_plate α σ η p) ∧
  (∀ w, w < σ 12 1 → η (α 4 w) = some (x_o 2 [.int (nI w), .int (nI (σ 4 w)), .int (nI (σ 5 w))])) ∧
  (∀ s, s < σ 12 2 → x_sheet α σ η s) ∧
  ∀ k, k < σ 12 3 → x_stamp α σ η k
