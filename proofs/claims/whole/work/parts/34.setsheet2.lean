theorem f_setSheet_ok {X : Nat → Nat} {α : Nat → Nat → Nat} {τ : Nat → Nat} {σ : jj_S} {η : jj_H} (h : x_rep X α τ σ η) (s r c a d : Nat) (hs : s < σ 12 2) (hno : ∀ k, k < σ 12 3 → σ 7 k ≠ s) (hr : r ≤ 3) (hc : c ≤ 3) (ha : 5 ≤ a ∧ a ≤ 16) (hd : 5 ≤ d ∧ d ≤ 16) : jj_HX mX6_setSheet [.ref (X 0), .int (nI s), .int (nI r), .int (nI c), .int (nI a), .int (nI d)] η 0 0 (fun v η' => v = some (.int (nI (σ 0 (σ 6 (8 * s)) * σ 1 (σ 6 (8 * s))))) ∧ x_rep X α τ (s_set σ s r c a d) η' ∧ x_fr τ η η') (fun _ => False) := by
  have h0 := h.2.2.1
  obtain ⟨t, t1, t2, t3, t4⟩ := h.sheet hs
  have tz : t = 0 := t4.mpr hno
  have hsp := (h.1.2.2.2.1 s hs).1
  have pl := (h.plate hsp).1
  have e3 : (nI 3).toInt = 3 := rfl
  have e5 : (nI 5).toInt = 5 := rfl
  have e16 : (nI 16).toInt = 16 := rfl
  have np : α 0 (σ 6 (8 * s)) ≠ α 5 s := (x_tag.ap h.1 h.2.1).2.2 0 _ 5 s hsp hs (Or.inl (by decide))
  refine jj_gx tok_X6_setSheet zok_X6 py_6 rfl 120 fun J => ?_
  refine ⟨_, h0, 0, 0, _, c_sheetN_some h s hs, Nat.le_refl _, Nat.le_refl _, fun v η' hv => ?_⟩
  obtain ⟨rfl, rfl⟩ := hv
  refine ⟨0, 0, _, c_isOutside η' _ _ _, Nat.le_refl _, Nat.le_refl _, fun v η'' hv => ?_⟩
  obtain ⟨rfl, rfl⟩ := hv
  refine ⟨fun c1 => ?_, fun c1 => ⟨0, 0, _, c_isOutside η'' _ _ _, Nat.le_refl _, Nat.le_refl _, fun v η' hv => ?_⟩⟩
  · have c1 := b01_ne0 c1
    rw [i0, e3, iN (by omega)] at c1
    simp at c1
    omega
  obtain ⟨rfl, rfl⟩ := hv
  refine ⟨fun c1 => ?_, fun c1 => ⟨0, 0, _, c_isOutside η' _ _ _, Nat.le_refl _, Nat.le_refl _, fun v η'' hv => ?_⟩⟩
  · have c1 := b01_ne0 c1
    rw [i0, e3, iN (by omega)] at c1
    simp at c1
    omega
  obtain ⟨rfl, rfl⟩ := hv
  refine ⟨fun c1 => ?_, fun c1 => ⟨0, 0, _, c_isOutside η'' _ _ _, Nat.le_refl _, Nat.le_refl _, fun v η' hv => ?_⟩⟩
  · have c1 := b01_ne0 c1
    rw [e5, e16, iN (by omega)] at c1
    simp at c1
    omega
  obtain ⟨rfl, rfl⟩ := hv
  refine ⟨fun c1 => ⟨_, t2, fun c2 => ⟨_, t2, _, up_s, _, up_s, _, up_s, _, up_s, _, ((up_n np).trans ((up_n np).trans ((up_n np).trans (up_n np)))).trans pl, _, up_s, _, ((up_n np).trans ((up_n np).trans ((up_n np).trans (up_n np)))).trans pl, trivial, ⟨?_, h.set hs hno hr hc ha hd (fun b hb => (up_n hb).trans ((up_n hb).trans ((up_n hb).trans (up_n hb)))) t2 up_s t1, fun b _ b1 b2 => ?_⟩, Nat.zero_le _, Nat.zero_le _⟩, fun c2 => ?_⟩, fun c1 => ?_⟩
  · rw [pk_mul]
  · have hb : b ≠ α 5 s := fun z => by
      have := h.2.1.2 5 s hs
      rw [← z] at this
      omega
    exact (up_n hb).trans ((up_n hb).trans ((up_n hb).trans (up_n hb)))
  · rw [tz] at c2
    exact absurd ((lg0 _ _).mpr rfl) c2
  · have c1 := b01_ne0 c1
    rw [e5, e16, iN (by omega)] at c1
    simp at c1
    omega
theorem f_setSheet_x1 {X : Nat → Nat} {α : Nat → Nat → Nat} {τ : Nat → Nat} {σ : jj_S} {η : jj_H} (h : x_rep X α τ σ η) (s r c a d : Int32) (hs : jin s (σ 12 2) = false) : jj_HX mX6_setSheet [.ref (X 0), .int s, .int r, .int c, .int a, .int d] η 1 6 (fun _ _ => False) (fun E => E = eI) := by
  have h0 := h.2.2.1
  refine jj_gx tok_X6_setSheet zok_X6 py_6 rfl 40 fun J => ?_
  refine ⟨_, h0, 0, 0, _, c_sheetN_none h s hs, Nat.zero_le _, Nat.zero_le _, fun v η' hv => ?_⟩
  obtain ⟨rfl, rfl⟩ := hv
  exact ⟨⟨rfl, rfl⟩, Nat.le_refl _, Nat.le_refl _⟩
/-- from 5 to 16 -/
def jga (x : Int32) : Bool := decide (5 ≤ x.toInt) && decide (x.toInt ≤ 16)
theorem f_setSheet_x2 {X : Nat → Nat} {α : Nat → Nat → Nat} {τ : Nat → Nat} {σ : jj_S} {η : jj_H} (h : x_rep X α τ σ η) (s : Nat) (r c a d : Int32) (hs : s < σ 12 2) (hx : (jin r 4 && jin c 4 && jga a && jga d) = false) : jj_HX mX6_setSheet [.ref (X 0), .int (nI s), .int r, .int c, .int a, .int d] η 1 6 (fun _ _ => False) (fun E => E = eA) := by
  have h0 := h.2.2.1
  have e3 : (nI 3).toInt = 3 := rfl
  have e5 : (nI 5).toInt = 5 := rfl
  have e16 : (nI 16).toInt = 16 := rfl
  refine jj_gx tok_X6_setSheet zok_X6 py_6 rfl 60 fun J => ?_
  refine ⟨_, h0, 0, 0, _, c_sheetN_some h s hs, Nat.zero_le _, Nat.zero_le _, fun v η' hv => ?_⟩
  obtain ⟨rfl, rfl⟩ := hv
  refine ⟨0, 0, _, c_isOutside η' _ _ _, Nat.zero_le _, Nat.zero_le _, fun v η'' hv => ?_⟩
  obtain ⟨rfl, rfl⟩ := hv
  refine ⟨fun c1 => ⟨⟨rfl, rfl⟩, Nat.le_refl _, Nat.le_refl _⟩, fun c1 => ⟨0, 0, _, c_isOutside η'' _ _ _, Nat.zero_le _, Nat.zero_le _, fun v η' hv => ?_⟩⟩
  obtain ⟨rfl, rfl⟩ := hv
  refine ⟨fun c2 => ⟨⟨rfl, rfl⟩, Nat.le_refl _, Nat.le_refl _⟩, fun c2 => ⟨0, 0, _, c_isOutside η' _ _ _, Nat.zero_le _, Nat.zero_le _, fun v η'' hv => ?_⟩⟩
  obtain ⟨rfl, rfl⟩ := hv
  refine ⟨fun c3 => ⟨⟨rfl, rfl⟩, Nat.le_refl _, Nat.le_refl _⟩, fun c3 => ⟨0, 0, _, c_isOutside η'' _ _ _, Nat.zero_le _, Nat.zero_le _, fun v η' hv => ?_⟩⟩
  obtain ⟨rfl, rfl⟩ := hv
  refine ⟨fun c4 => ?_, fun c4 => ⟨⟨rfl, rfl⟩, Nat.le_refl _, Nat.le_refl _⟩⟩
  have c1 := b01_eq0 (Classical.not_not.mp c1)
  have c2 := b01_eq0 (Classical.not_not.mp c2)
  have c3 := b01_eq0 (Classical.not_not.mp c3)
  have c4 := b01_eq0 c4
  rw [i0, e3] at c1 c2
  rw [e5, e16] at c3 c4
  simp [jin, jga] at c1 c2 c3 c4 hx
  omega
