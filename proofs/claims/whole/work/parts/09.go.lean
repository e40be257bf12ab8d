/-! METHODS OVER THE SMALL MACHINE: J is what is to be shown at each place of the method -/
theorem jj_run2 {M : jj_M} {Z : jj_E} {T : jj_T} {RC RS : Nat} {x : jj_X} {post : Option Value → jj_H → Prop} {X : jj_H → String → Prop} (hC : jj_Cx M RC RS x) (hE : jj_En post X x) (hZ : jj_Zok (jj_nm M).cls Z) (hT : jj_Tok M Z T) : ∀ (f : Nat) (η : jj_H) (k n pc : Nat) (ls : jj_L) (st : List Value), jj_ex Z T RC RS post X (jj_J x) f η k n pc ls st → jj_J x η k n pc ls st := by
  intro f
  induction f with
  | zero => intro η k n pc ls st h; exact h
  | succ f ih => intro η k n pc ls st h; exact jj_sound hC hE hZ hT ih η k n pc ls st h
/-- where to stop: at these pcs, with so many locals kept -/
def jj_sp : List (Nat × Nat) → Nat → Option Nat
  | [], _ => none
  | (a, m) :: r, pc => bif Nat.beq a pc then some m else jj_sp r pc
/-- at most f steps, but no further than a place of S -/
noncomputable def jj_es (S : List (Nat × Nat)) (Z : jj_E) (T : jj_T) (RC RS : Nat) (post : Option Value → jj_H → Prop) (X : jj_H → String → Prop) (K : jj_K) (f : Nat) : jj_K :=
  Nat.rec (motive := fun _ => jj_K) K (fun _ k => fun η c n pc ls st => match jj_sp S pc with
    | some m => jj_fc (ls.take m) (fun ls' => K η c n pc ls' st)
    | none => jj_step Z T RC RS post X k η c n pc ls st) f
theorem jj_run3 {M : jj_M} {Z : jj_E} {T : jj_T} {RC RS : Nat} {x : jj_X} {post : Option Value → jj_H → Prop} {X : jj_H → String → Prop} (S : List (Nat × Nat)) (hC : jj_Cx M RC RS x) (hE : jj_En post X x) (hZ : jj_Zok (jj_nm M).cls Z) (hT : jj_Tok M Z T) : ∀ (f : Nat) (η : jj_H) (k n pc : Nat) (ls : jj_L) (st : List Value), jj_es S Z T RC RS post X (jj_J x) f η k n pc ls st → jj_J x η k n pc ls st := by
  intro f
  induction f with
  | zero => intro η k n pc ls st h; exact h
  | succ f ih =>
    intro η k n pc ls st h
    have h : (match jj_sp S pc with
      | some m => jj_fc (ls.take m) (fun ls' => jj_J x η k n pc ls' st)
      | none => jj_step Z T RC RS post X (jj_es S Z T RC RS post X (jj_J x) f) η k n pc ls st) := h
    split at h
    next m _ =>
      rw [jj_fc_eq] at h
      exact h.sub _ (fun q hq => List.mem_of_mem_take hq)
    next => exact jj_sound hC hE hZ hT ih η k n pc ls st h
/-- a method's first locals -/
def jj_ar : Nat → List Value → jj_L
  | _, [] => []
  | i, v :: r => match v with
    | .long _ => (i, v) :: jj_ar (i + 2) r
    | .double _ => (i, v) :: jj_ar (i + 2) r
    | _ => (i, v) :: jj_ar (i + 1) r
theorem jj_ar_eq : ∀ (l : List Value) (i : Nat), lv_args i l = jj_ar i l
  | [], _ => rfl
  | v :: r, i => by
    cases v <;> (show (i, _) :: lv_args _ r = (i, _) :: jj_ar _ r; rw [jj_ar_eq r]; rfl)
abbrev jj_Rn (Z : jj_E) (T : jj_T) (RC RS : Nat) (post : Option Value → jj_H → Prop) (X : jj_H → String → Prop) (J : jj_K) : Prop := ∀ (S : List (Nat × Nat)) (f : Nat) {η : jj_H} {k n pc : Nat} {ls : jj_L} {st : List Value}, jj_step Z T RC RS post X (jj_es S Z T RC RS post X J f) η k n pc ls st → J η k n pc ls st
/-- a method that returns; with loops -/
theorem jj_lp {M : jj_M} {Z : jj_E} {T : jj_T} (hT : jj_Tok M Z T) (hZ : jj_Zok (jj_nm M).cls Z) (hy : plainName (jj_nm M).cls = true) {as : List Value} {η : jj_H} {mc ms : Nat} {post : Option Value → jj_H → Prop} (hn : Nat.ble (lg_sl as).length (jj_mx M) = true)
    (body : ∀ J : jj_K, jj_Rn Z T mc ms post (fun _ _ => False) J → jj_fc (jj_ar 0 as) (fun ls => J η 0 0 0 ls [])) : jj_Ht M as η mc ms post :=
  jj_Ht.of hy (Nat.le_of_ble_eq_true hn) fun x hC hE => by
    have h9 := body (jj_J x) (fun S f {_ _ _ _ _ _} h => jj_sound hC hE hZ hT (jj_run3 S hC hE hZ hT f) _ _ _ _ _ _ h)
    rw [jj_fc_eq] at h9
    rw [jj_ar_eq]
    exact h9
/-- a method that returns, straight -/
theorem jj_go {M : jj_M} {Z : jj_E} {T : jj_T} (hT : jj_Tok M Z T) (hZ : jj_Zok (jj_nm M).cls Z) (hy : plainName (jj_nm M).cls = true) {as : List Value} {η : jj_H} {mc ms : Nat} {post : Option Value → jj_H → Prop} (hn : Nat.ble (lg_sl as).length (jj_mx M) = true) (f : Nat)
    (body : ∀ J : jj_K, jj_fc (jj_ar 0 as) (fun ls => jj_ex Z T mc ms post (fun _ _ => False) J f η 0 0 0 ls [])) : jj_Ht M as η mc ms post :=
  jj_Ht.of hy (Nat.le_of_ble_eq_true hn) fun x hC hE => by
    have h9 := body (jj_J x)
    rw [jj_fc_eq] at h9
    rw [jj_ar_eq]
    exact jj_run2 hC hE hZ hT f _ _ _ _ _ _ h9
/-- a method that may throw -/
theorem jj_lx {M : jj_M} {Z : jj_E} {T : jj_T} (hT : jj_Tok M Z T) (hZ : jj_Zok (jj_nm M).cls Z) (hy : plainName (jj_nm M).cls = true) {as : List Value} {η : jj_H} {mc ms : Nat} {post : Option Value → jj_H → Prop} {X : String → Prop} (hn : Nat.ble (lg_sl as).length (jj_mx M) = true)
    (body : ∀ J : jj_K, jj_Rn Z T mc ms post (fun η' E => η' = η ∧ X E) J → jj_fc (jj_ar 0 as) (fun ls => J η 0 0 0 ls [])) : jj_HX M as η mc ms post X :=
  jj_HX.of hy (Nat.le_of_ble_eq_true hn) fun x hC hE => by
    have h9 := body (jj_J x) (fun S f {_ _ _ _ _ _} h => jj_sound hC hE hZ hT (jj_run3 S hC hE hZ hT f) _ _ _ _ _ _ h)
    rw [jj_fc_eq] at h9
    rw [jj_ar_eq]
    exact h9
theorem jj_gx {M : jj_M} {Z : jj_E} {T : jj_T} (hT : jj_Tok M Z T) (hZ : jj_Zok (jj_nm M).cls Z) (hy : plainName (jj_nm M).cls = true) {as : List Value} {η : jj_H} {mc ms : Nat} {post : Option Value → jj_H → Prop} {X : String → Prop} (hn : Nat.ble (lg_sl as).length (jj_mx M) = true) (f : Nat)
    (body : ∀ J : jj_K, jj_fc (jj_ar 0 as) (fun ls => jj_ex Z T mc ms post (fun η' E => η' = η ∧ X E) J f η 0 0 0 ls [])) : jj_HX M as η mc ms post X :=
  jj_HX.of hy (Nat.le_of_ble_eq_true hn) fun x hC hE => by
    have h9 := body (jj_J x)
    rw [jj_fc_eq] at h9
    rw [jj_ar_eq]
    exact jj_run2 hC hE hZ hT f _ _ _ _ _ _ h9
theorem py_0 : plainName RX0 = true := by decide +kernel
theorem py_1 : plainName RX1 = true := by decide +kernel
theorem py_2 : plainName RX2 = true := by decide +kernel
theorem py_3 : plainName RX3 = true := by decide +kernel
theorem py_4 : plainName RX4 = true := by decide +kernel
theorem py_5 : plainName RX5 = true := by decide +kernel
theorem py_6 : plainName RX6 = true := by decide +kernel
theorem py_7 : plainName RX7 = true := by decide +kernel
theorem py_L : plainName RL = true := by decide +kernel
theorem py_J6 : plainName RJ6 = true := by decide +kernel
theorem py_J13 : plainName RJ13 = true := by decide +kernel
/-! numbers -/
def b01 (b : Bool) : Int32 := bif b then 1 else 0
theorem b01_1 {b : Bool} (h : b = true) : b01 b = 1 := by rw [h]; rfl
theorem b01_0 {b : Bool} (h : b = false) : b01 b = 0 := by rw [h]; rfl
theorem b01_01 (b : Bool) : b01 b = 0 ∨ b01 b = 1 := by cases b <;> simp [b01]
theorem b01_eq0 {b : Bool} (h : b01 b = 0) : b = false := by cases b; rfl; exact absurd h (by decide)
theorem b01_ne0 {b : Bool} (h : ¬ b01 b = 0) : b = true := by cases b; exact absurd rfl h; rfl
theorem i_lt (x y : Int32) : x < y ↔ x.toInt < y.toInt := Int32.lt_iff_toInt_lt
theorem i_le (x y : Int32) : x ≤ y ↔ x.toInt ≤ y.toInt := Int32.le_iff_toInt_le
theorem i_eq (x y : Int32) : x = y ↔ x.toInt = y.toInt := Int32.toInt_inj.symm
theorem cb_lt {x y : Int32} : jj_cb .lt x y ↔ x.toInt < y.toInt := i_lt x y
theorem cb_ge {x y : Int32} : jj_cb .ge x y ↔ y.toInt ≤ x.toInt := i_le y x
theorem cb_gt {x y : Int32} : jj_cb .gt x y ↔ y.toInt < x.toInt := i_lt y x
theorem cb_le {x y : Int32} : jj_cb .le x y ↔ x.toInt ≤ y.toInt := i_le x y
theorem cb_eq {x y : Int32} : jj_cb .eq x y ↔ x.toInt = y.toInt := i_eq x y
theorem cb_ne {x y : Int32} : jj_cb .ne x y ↔ ¬ x.toInt = y.toInt := not_congr (i_eq x y)
theorem i0 : (0 : Int32).toInt = 0 := rfl
theorem im1 : (-1 : Int32).toInt = -1 := rfl
theorem iN {n : Nat} (h : n < 2147483648) : (nI n).toInt = (n : Int) := nI_toInt (by omega)
def jin (x : Int32) (n : Nat) : Bool := decide (0 ≤ x.toInt) && decide (x.toInt < n)
theorem jin_nI {n N : Nat} (h : n < 2147483648) : jin (nI n) N = decide (n < N) := by
  unfold jin
  rw [iN h, Bool.eq_iff_iff]
  simp only [Bool.and_eq_true, decide_eq_true_eq]
  omega
theorem jin_of {x : Int32} {N : Nat} (h : jin x N = true) : ∃ n, x = nI n ∧ n < N ∧ n < 2147483648 := by
  unfold jin at h
  simp only [Bool.and_eq_true, decide_eq_true_eq] at h
  refine ⟨x.toInt.toNat, ?_, by omega, ?_⟩
  · rw [i_eq, iN (by have := Int32.toInt_lt x; omega)]
    omega
  · have := Int32.toInt_lt x
    omega
