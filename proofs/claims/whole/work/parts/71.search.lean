/-! THE CHECK's SEARCH, step by step -/
def bO (R : Nat → Nat → Bool) (V : Nat → Prop) (n k x : Nat) : Prop := ∃ j, j < k ∧ V j ∧ cn R n j x
def bfI (R : Nat → Nat → Bool) (V : Nat → Prop) (n k i o : Nat) (rw : Nat → Nat) (sn : Nat → Bool) (sz : Nat) : Prop :=
  i ≤ sz ∧ (∀ t, t < sz → rw t < n ∧ cn R n k (rw t)) ∧ (∀ x, x < n → (sn x = true ↔ bO R V n k x ∨ ∃ t, t < sz ∧ rw t = x)) ∧ (∀ s t, s < sz → t < sz → rw s = rw t → s = t) ∧
  (∀ t y, t < i → y < n → R (rw t) y = true → sn y = true) ∧ (∀ y, y < o → y < n → R (rw i) y = true → sn y = true) ∧ ∃ t, t < sz ∧ rw t = k
def b_up {α : Type} (f : Nat → α) (i : Nat) (v : α) : Nat → α := fun j => if j = i then v else f j
theorem b_up_s {α : Type} {f : Nat → α} {i : Nat} {v : α} : b_up f i v i = v := if_pos rfl
theorem b_up_n {α : Type} {f : Nat → α} {i j : Nat} {v : α} (h : j ≠ i) : b_up f i v j = f j := if_neg h
theorem bfI.size {R : Nat → Nat → Bool} {V : Nat → Prop} {n k i o : Nat} {rw : Nat → Nat} {sn : Nat → Bool} {sz : Nat} (h : bfI R V n k i o rw sn sz) : sz ≤ n := by
  have := ct_inj (p := fun _ => true) (q := fun _ => true) (m := n) rw (n := sz) (fun t ht _ => ⟨(h.2.1 t ht).1, rfl⟩) (fun s t hs ht _ _ e => h.2.2.2.1 s t hs ht e)
  rw [ct_true, ct_true] at this
  exact this
theorem bfI.skip {R : Nat → Nat → Bool} {V : Nat → Prop} {n k i o : Nat} {rw : Nat → Nat} {sn : Nat → Bool} {sz : Nat} (h : bfI R V n k i o rw sn sz) (hs : sn o = true ∨ R (rw i) o = false) : bfI R V n k i (o + 1) rw sn sz := by
  obtain ⟨b1, b2, b3, b4, b5, b6, b7⟩ := h
  refine ⟨b1, b2, b3, b4, b5, fun y hy hn hr => ?_, b7⟩
  by_cases z : y = o
  · subst z
    rcases hs with hs | hs
    · exact hs
    · rw [hs] at hr
      cases hr
  · exact b6 y (by omega) hn hr
theorem bfI.add {R : Nat → Nat → Bool} {V : Nat → Prop} {n k i o : Nat} {rw : Nat → Nat} {sn : Nat → Bool} {sz : Nat} (h : bfI R V n k i o rw sn sz) (hi : i < sz) (ho : o < n) (hs : sn o = false) (hr : R (rw i) o = true) : bfI R V n k i (o + 1) (b_up rw sz o) (b_up sn o true) (sz + 1) := by
  obtain ⟨b1, b2, b3, b4, b5, b6, b7⟩ := h
  have rl : ∀ t, t < sz → b_up rw sz o t = rw t := fun t ht => b_up_n (by omega)
  have no : ¬ (bO R V n k o ∨ ∃ t, t < sz ∧ rw t = o) := fun z => by
    rw [(b3 o ho).mpr z] at hs
    cases hs
  have sm : ∀ y, sn y = true → b_up sn o true y = true := fun y hy => by
    by_cases z : y = o
    · rw [z, b_up_s]
    · rw [b_up_n z]
      exact hy
  refine ⟨by omega, fun t ht => ?_, fun x hx => ?_, fun s t hs ht e => ?_, fun t y ht hy hr => ?_, fun y hy hn hr2 => ?_, ?_⟩
  · by_cases z : t = sz
    · rw [z, b_up_s]
      exact ⟨ho, (b2 i hi).2.tr (cn.st (b2 i hi).1 ho hr)⟩
    · rw [rl t (by omega)]
      exact b2 t (by omega)
  · by_cases z : x = o
    · rw [z, b_up_s]
      exact ⟨fun _ => Or.inr ⟨sz, by omega, b_up_s⟩, fun _ => rfl⟩
    · rw [b_up_n z, b3 x hx]
      constructor
      · rintro (h | ⟨t, t1, t2⟩)
        · exact Or.inl h
        · exact Or.inr ⟨t, by omega, by rw [rl t t1]; exact t2⟩
      · rintro (h | ⟨t, t1, t2⟩)
        · exact Or.inl h
        · by_cases y : t = sz
          · rw [y, b_up_s] at t2
            exact absurd t2.symm z
          · rw [rl t (by omega)] at t2
            exact Or.inr ⟨t, by omega, t2⟩
  · by_cases z1 : s = sz
    · by_cases z2 : t = sz
      · omega
      · rw [z1, b_up_s, rl t (by omega)] at e
        exact absurd (Or.inr ⟨t, by omega, e.symm⟩) no
    · by_cases z2 : t = sz
      · rw [z2, b_up_s, rl s (by omega)] at e
        exact absurd (Or.inr ⟨s, by omega, e⟩) no
      · rw [rl s (by omega), rl t (by omega)] at e
        exact b4 s t (by omega) (by omega) e
  · rw [rl t (by omega)] at hr
    exact sm y (b5 t y ht hy hr)
  · rw [rl i hi] at hr2
    by_cases z : y = o
    · rw [z, b_up_s]
    · exact sm y (b6 y (by omega) hn hr2)
  · obtain ⟨t, t1, t2⟩ := b7
    exact ⟨t, by omega, by rw [rl t t1]; exact t2⟩
theorem bfI.next {R : Nat → Nat → Bool} {V : Nat → Prop} {n k i : Nat} {rw : Nat → Nat} {sn : Nat → Bool} {sz : Nat} (h : bfI R V n k i n rw sn sz) (hi : i < sz) : bfI R V n k (i + 1) 0 rw sn sz := by
  obtain ⟨b1, b2, b3, b4, b5, b6, b7⟩ := h
  refine ⟨hi, b2, b3, b4, fun t y ht hy hr => ?_, fun y hy => absurd hy (Nat.not_lt_zero _), b7⟩
  by_cases z : t = i
  · rw [z] at hr
    exact b6 y hy hy hr
  · exact b5 t y (by omega) hy hr
theorem bfI.fin {R : Nat → Nat → Bool} {V : Nat → Prop} {n k : Nat} {rw : Nat → Nat} {sn : Nat → Bool} {sz : Nat} (hR : ∀ x y, x < n → y < n → R x y = true → R y x = true) (hk : k < n) (hf : fst_ R V n k) (h : bfI R V n k sz 0 rw sn sz) : (∀ x, x < n → (sn x = true ↔ bO R V n k x ∨ cn R n k x)) ∧ sz = cs R n k := by
  obtain ⟨b1, b2, b3, b4, b5, b6, b7⟩ := h
  have ap : ∀ t, t < sz → ¬ bO R V n k (rw t) := by
    rintro t ht ⟨j, j1, j2, j3⟩
    exact hf.2 j j1 j2 (j3.tr ((b2 t ht).2.sy hR))
  have cl : ∀ x, cn R n k x → ∃ t, t < sz ∧ rw t = x := fun x hx => hx (fun x => ∃ t, t < sz ∧ rw t = x) b7 (fun x y hx hy ⟨t, t1, t2⟩ hr => by
    have hs := b5 t y t1 hy (by rw [t2]; exact hr)
    rcases (b3 y hy).mp hs with ⟨j, j1, j2, j3⟩ | z
    · exact absurd ⟨j, j1, j2, j3.tr (cn.st hy (by rw [t2]; exact hx) (by rw [t2]; exact hR x y hx hy hr))⟩ (ap t t1)
    · exact z)
  refine ⟨fun x hx => ?_, Nat.le_antisymm ?_ ?_⟩
  · rw [b3 x hx]
    constructor
    · rintro (z | ⟨t, t1, t2⟩)
      · exact Or.inl z
      · exact Or.inr (t2 ▸ (b2 t t1).2)
    · rintro (z | z)
      · exact Or.inl z
      · exact Or.inr (cl x z)
  · have := ct_inj (p := fun _ => true) (q := fun x => cb (cn R n k x)) (m := n) rw (n := sz) (fun t ht _ => ⟨(b2 t ht).1, cb_iff.mpr (b2 t ht).2⟩) (fun s t hs ht _ _ e => b4 s t hs ht e)
    rw [ct_true] at this
    exact this
  · have ch : ∀ x, ∃ t, cn R n k x → t < sz ∧ rw t = x := fun x => by
      by_cases z : cn R n k x
      · obtain ⟨t, t1⟩ := cl x z
        exact ⟨t, fun _ => t1⟩
      · exact ⟨0, fun y => absurd y z⟩
    have := ct_inj (p := fun x => cb (cn R n k x)) (q := fun _ => true) (m := sz) (fun x => Classical.choose (ch x)) (n := n) (fun x hx hc => ⟨(Classical.choose_spec (ch x) (cb_iff.mp hc)).1, rfl⟩) (fun x y hx hy hc hd e => by
      have e1 := (Classical.choose_spec (ch x) (cb_iff.mp hc)).2
      have e2 := (Classical.choose_spec (ch y) (cb_iff.mp hd)).2
      have e : Classical.choose (ch x) = Classical.choose (ch y) := e
      rw [← e1, ← e2, e])
    rw [ct_true] at this
    exact this
theorem bfI.init {R : Nat → Nat → Bool} {V : Nat → Prop} {n k : Nat} {rw : Nat → Nat} {sn : Nat → Bool} (hk : k < n) (h : ∀ x, x < n → (sn x = true ↔ bO R V n k x)) : bfI R V n k 0 0 (b_up rw 0 k) (b_up sn k true) 1 := by
  refine ⟨by decide, fun t ht => ?_, fun x hx => ?_, fun s t hs ht _ => by omega, fun t y ht => absurd ht (Nat.not_lt_zero _), fun y hy => absurd hy (Nat.not_lt_zero _), 0, by decide, b_up_s⟩
  · rw [show t = 0 by omega, b_up_s]
    exact ⟨hk, cn.rf⟩
  · by_cases z : x = k
    · rw [z, b_up_s]
      exact ⟨fun _ => Or.inr ⟨0, by decide, b_up_s⟩, fun _ => rfl⟩
    · rw [b_up_n z, h x hx]
      constructor
      · exact Or.inl
      · rintro (y | ⟨t, t1, t2⟩)
        · exact y
        · rw [show t = 0 by omega, b_up_s] at t2
          exact absurd t2.symm z
theorem bO.s {R : Nat → Nat → Bool} {V : Nat → Prop} {n k x : Nat} : bO R V n (k + 1) x ↔ bO R V n k x ∨ (V k ∧ cn R n k x) := by
  constructor
  · rintro ⟨j, j1, j2, j3⟩
    by_cases z : j = k
    · subst z
      exact Or.inr ⟨j2, j3⟩
    · exact Or.inl ⟨j, by omega, j2, j3⟩
  · rintro (⟨j, j1, j2, j3⟩ | ⟨h1, h2⟩)
    · exact ⟨j, by omega, j2, j3⟩
    · exact ⟨k, by omega, h1, h2⟩
theorem fst_iff {R : Nat → Nat → Bool} {V : Nat → Prop} {n k : Nat} : fst_ R V n k ↔ V k ∧ ¬ bO R V n k k := by
  constructor
  · rintro ⟨h1, h2⟩
    exact ⟨h1, fun ⟨j, j1, j2, j3⟩ => h2 j j1 j2 j3⟩
  · rintro ⟨h1, h2⟩
    exact ⟨h1, fun j j1 j2 j3 => h2 ⟨j, j1, j2, j3⟩⟩
theorem ctF_s (R : Nat → Nat → Bool) (V : Nat → Prop) (n k : Nat) : ctF R V n (k + 1) = ctF R V n k + (if cb (fst_ R V n k) then 1 else 0) := rfl
theorem ctF_le (R : Nat → Nat → Bool) (V : Nat → Prop) (n k : Nat) : ctF R V n k ≤ k := fb_ct_le _ _
