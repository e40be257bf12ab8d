/-! WHAT HANGS TOGETHER -/
noncomputable def cb (p : Prop) : Bool := @decide p (Classical.propDecidable p)
theorem cb_iff {p : Prop} : cb p = true ↔ p := by
  unfold cb
  exact @decide_eq_true_iff p (Classical.propDecidable p)
theorem cb_f {p : Prop} : cb p = false ↔ ¬ p := by
  unfold cb
  exact @decide_eq_false_iff_not p (Classical.propDecidable p)
/-- as many there as here, if each here has its own there -/
theorem ct_inj {p q : Nat → Bool} {m : Nat} (f : Nat → Nat) : ∀ {n : Nat}, (∀ k, k < n → p k = true → f k < m ∧ q (f k) = true) → (∀ j k, j < n → k < n → p j = true → p k = true → f j = f k → j = k) → fb_ct p n ≤ fb_ct q m := by
  intro n
  induction n generalizing q with
  | zero => exact fun _ _ => Nat.zero_le _
  | succ n ih =>
    intro h1 h2
    rw [fb_ct_succ]
    cases hp : p n with
    | false => exact ih (fun k hk => h1 k (by omega)) (fun j k hj hk => h2 j k (by omega) (by omega))
    | true =>
      obtain ⟨b1, b2⟩ := h1 n (by omega) hp
      have e := fb_ct_upd q false b1
      rw [b2, if_pos rfl] at e
      have ih := ih (q := fun k => if k = f n then false else q k) (fun k hk hpk => by
        obtain ⟨c1, c2⟩ := h1 k (by omega) hpk
        refine ⟨c1, ?_⟩
        show (if f k = f n then false else q (f k)) = true
        rw [if_neg (fun z => by have := h2 k n (by omega) (by omega) hpk hp z; omega)]
        exact c2) (fun j k hj hk => h2 j k (by omega) (by omega))
      rw [if_pos rfl]
      rw [if_neg (by decide)] at e
      omega
theorem ct_true (n : Nat) : fb_ct (fun _ => true) n = n := fb_ct_all.mpr fun _ _ => rfl
/-- a least one -/
theorem least {P : Nat → Prop} (n : Nat) (h : P n) : ∃ m, m ≤ n ∧ P m ∧ ∀ j, j < m → ¬ P j := by
  induction n using Nat.strongRecOn with
  | ind n ih =>
    by_cases z : ∃ j, j < n ∧ P j
    · obtain ⟨j, hj, pj⟩ := z
      obtain ⟨m, m1, m2, m3⟩ := ih j hj pj
      exact ⟨m, by omega, m2, m3⟩
    · exact ⟨n, Nat.le_refl _, h, fun j hj pj => z ⟨j, hj, pj⟩⟩
/-- b is reached from a, by steps of R below n -/
def cn (R : Nat → Nat → Bool) (n a b : Nat) : Prop := ∀ P : Nat → Prop, P a → (∀ x y, x < n → y < n → P x → R x y = true → P y) → P b
theorem cn.rf {R : Nat → Nat → Bool} {n a : Nat} : cn R n a a := fun _ h _ => h
theorem cn.tr {R : Nat → Nat → Bool} {n a b c : Nat} (h : cn R n a b) (h2 : cn R n b c) : cn R n a c := fun P pa st => h2 P (h P pa st) st
theorem cn.st {R : Nat → Nat → Bool} {n a b : Nat} (ha : a < n) (hb : b < n) (h : R a b = true) : cn R n a b := fun _ pa st => st a b ha hb pa h
theorem cn.lt {R : Nat → Nat → Bool} {n a b : Nat} (ha : a < n) (h : cn R n a b) : b < n := h (fun x => x < n) ha (fun _ _ _ hy _ _ => hy)
theorem cn.sy {R : Nat → Nat → Bool} {n a b : Nat} (hR : ∀ x y, x < n → y < n → R x y = true → R y x = true) (h : cn R n a b) : cn R n b a :=
  h (fun x => cn R n x a) cn.rf (fun x y hx hy hp hr => (cn.st hy hx (hR x y hx hy hr)).tr hp)
/-- how many are reached from k -/
noncomputable def cs (R : Nat → Nat → Bool) (n k : Nat) : Nat := fb_ct (fun x => cb (cn R n k x)) n
/-- the first of its kind: of V, and reached from none of V before it -/
def fst_ (R : Nat → Nat → Bool) (V : Nat → Prop) (n k : Nat) : Prop := V k ∧ ∀ j, j < k → V j → ¬ cn R n j k
noncomputable def ctF (R : Nat → Nat → Bool) (V : Nat → Prop) (n m : Nat) : Nat := fb_ct (fun k => cb (fst_ R V n k)) m
noncomputable def mxF (R : Nat → Nat → Bool) (V : Nat → Prop) (n : Nat) : Nat → Nat
  | 0 => 0
  | k + 1 => bif cb (fst_ R V n k) then max (mxF R V n k) (cs R n k) else mxF R V n k
theorem cs_le (R : Nat → Nat → Bool) (n k : Nat) : cs R n k ≤ n := fb_ct_le _ _
theorem mxF_le (R : Nat → Nat → Bool) (V : Nat → Prop) (n : Nat) : ∀ k, mxF R V n k ≤ n
  | 0 => Nat.zero_le _
  | k + 1 => by
    have ih := mxF_le R V n k
    have := cs_le R n k
    show (bif _ then _ else _) ≤ n
    cases cb (fst_ R V n k) with
    | true => exact Nat.max_le.mpr ⟨ih, this⟩
    | false => exact ih
/-- the largest that hangs together is as large as one of them, and none is larger -/
theorem mxF_spec {R : Nat → Nat → Bool} {V : Nat → Prop} {n : Nat} : ∀ m, (∀ k, k < m → fst_ R V n k → cs R n k ≤ mxF R V n m) ∧ (mxF R V n m = 0 ∨ ∃ k, k < m ∧ fst_ R V n k ∧ mxF R V n m = cs R n k)
  | 0 => ⟨fun k hk => absurd hk (Nat.not_lt_zero _), Or.inl rfl⟩
  | m + 1 => by
    obtain ⟨i1, i2⟩ := mxF_spec (R := R) (V := V) (n := n) m
    have st : mxF R V n (m + 1) = bif cb (fst_ R V n m) then max (mxF R V n m) (cs R n m) else mxF R V n m := rfl
    cases hc : cb (fst_ R V n m) with
    | false =>
      rw [hc] at st
      have st : mxF R V n (m + 1) = mxF R V n m := st
      rw [st]
      refine ⟨fun k hk hf => ?_, ?_⟩
      · by_cases z : k = m
        · subst z
          exact absurd hf (cb_f.mp hc)
        · exact i1 k (by omega) hf
      · rcases i2 with i2 | ⟨k, k1, k2, k3⟩
        · exact Or.inl i2
        · exact Or.inr ⟨k, by omega, k2, k3⟩
    | true =>
      rw [hc] at st
      have st : mxF R V n (m + 1) = max (mxF R V n m) (cs R n m) := st
      have hf := cb_iff.mp hc
      rw [st]
      refine ⟨fun k hk hf => ?_, ?_⟩
      · by_cases z : k = m
        · subst z
          exact Nat.le_max_right _ _
        · exact Nat.le_trans (i1 k (by omega) hf) (Nat.le_max_left _ _)
      · rcases Nat.le_total (mxF R V n m) (cs R n m) with z | z
        · rw [Nat.max_eq_right z]
          exact Or.inr ⟨m, by omega, hf, rfl⟩
        · rw [Nat.max_eq_left z]
          rcases i2 with i2 | ⟨k, k1, k2, k3⟩
          · exact Or.inl i2
          · exact Or.inr ⟨k, by omega, k2, k3⟩
/-- each of V hangs together with a first one, as many as it -/
theorem fst_of {R : Nat → Nat → Bool} {V : Nat → Prop} {n k : Nat} (hR : ∀ x y, x < n → y < n → R x y = true → R y x = true) (hk : k < n) (hV : V k) : ∃ j, j < n ∧ fst_ R V n j ∧ cn R n j k ∧ cs R n j = cs R n k := by
  obtain ⟨j, j1, ⟨j2, j3⟩, j4⟩ := least (P := fun j => V j ∧ cn R n j k) k ⟨hV, cn.rf⟩
  refine ⟨j, by omega, ⟨j2, fun i hi hVi hc => j4 i hi ⟨hVi, hc.tr j3⟩⟩, j3, fb_ct_cong fun x _ => ?_⟩
  rw [Bool.eq_iff_iff, cb_iff, cb_iff]
  exact ⟨fun h => (j3.sy hR).tr h, fun h => j3.tr h⟩
