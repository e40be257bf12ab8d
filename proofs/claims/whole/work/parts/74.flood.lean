/-! BOTH SIDES FIND THE SAME CLUSTERS -/
def adj (p q : Nat) : Bool := ((decide (s_bp (p / 8) (p % 8) 0 = some q) || decide (s_bp (p / 8) (p % 8) 1 = some q)) || decide (s_bp (p / 8) (p % 8) 2 = some q)) || decide (s_bp (p / 8) (p % 8) 3 = some q)
theorem adj_iff {p q : Nat} : adj p q = true ↔ ∃ d, d < 4 ∧ s_bp (p / 8) (p % 8) d = some q := by
  unfold adj
  simp only [Bool.or_eq_true, decide_eq_true_eq]
  constructor
  · rintro (((h | h) | h) | h)
    · exact ⟨0, by decide, h⟩
    · exact ⟨1, by decide, h⟩
    · exact ⟨2, by decide, h⟩
    · exact ⟨3, by decide, h⟩
  · rintro ⟨d, hd, h⟩
    rcases lt4 hd with rfl | rfl | rfl | rfl
    · exact Or.inl (Or.inl (Or.inl h))
    · exact Or.inl (Or.inl (Or.inr h))
    · exact Or.inl (Or.inr h)
    · exact Or.inr h
theorem adj_sy {p q : Nat} (hp : p < 64) (h : adj p q = true) : adj q p = true := by
  obtain ⟨d, hd, h⟩ := adj_iff.mp h
  have := s_bp_sy (show p / 8 < 8 by omega) (show p % 8 < 8 by omega) hd h
  rw [show 8 * (p / 8) + p % 8 = p by omega] at this
  exact adj_iff.mpr ⟨(d + 2) % 4, by omega, this⟩
theorem adj_c {p q : Nat} (hp : p < 64) : adj p q = true ↔ (p + 8 = q ∧ q < 64) ∨ q + 8 = p ∨ (p + 1 = q ∧ p % 8 ≠ 7) ∨ (q + 1 = p ∧ p % 8 ≠ 0) := by
  rw [adj_iff]
  constructor
  · rintro ⟨d, hd, h⟩
    rcases lt4 hd with rfl | rfl | rfl | rfl
    · have h : (if p / 8 = 0 then none else some (8 * (p / 8 - 1) + p % 8)) = some q := h
      split at h
      · cases h
      · cases h
        omega
    · have h : (if p % 8 = 7 then none else some (8 * (p / 8) + (p % 8 + 1))) = some q := h
      split at h
      · cases h
      · cases h
        omega
    · have h : (if p / 8 = 7 then none else some (8 * (p / 8 + 1) + p % 8)) = some q := h
      split at h
      · cases h
      · cases h
        omega
    · have h : (if p % 8 = 0 then none else some (8 * (p / 8) + (p % 8 - 1))) = some q := h
      split at h
      · cases h
      · cases h
        omega
  · rintro (⟨h1, h2⟩ | h | ⟨h1, h2⟩ | ⟨h1, h2⟩)
    · refine ⟨2, by decide, ?_⟩
      show (if p / 8 = 7 then none else some (8 * (p / 8 + 1) + p % 8)) = some q
      rw [if_neg (by omega)]
      congr 1
      omega
    · refine ⟨0, by decide, ?_⟩
      show (if p / 8 = 0 then none else some (8 * (p / 8 - 1) + p % 8)) = some q
      rw [if_neg (by omega)]
      congr 1
      omega
    · refine ⟨1, by decide, ?_⟩
      show (if p % 8 = 7 then none else some (8 * (p / 8) + (p % 8 + 1))) = some q
      rw [if_neg (by omega)]
      congr 1
      omega
    · refine ⟨3, by decide, ?_⟩
      show (if p % 8 = 0 then none else some (8 * (p / 8) + (p % 8 - 1))) = some q
      rw [if_neg (by omega)]
      congr 1
      omega
theorem bit_hi {t q : Nat} (ht : t < 2 ^ 64) (h : t.testBit q = true) : q < 64 := by
  rcases Nat.lt_or_ge q 64 with z | z
  · exact z
  · rw [Nat.testBit_lt_two_pow (Nat.lt_of_lt_of_le ht (Nat.pow_le_pow_right (by decide) z))] at h
    cases h
theorem LC_bit : ∀ x, x < 64 → b_LC.testBit x = decide (x % 8 ≠ 7) := by decide +kernel
theorem FC_bit : ∀ x, x < 64 → b_FC.testBit x = decide (x % 8 ≠ 0) := by decide +kernel
theorem b_nb_bit {p q : Nat} (hp : p < 2 ^ 64) (hq : q < 64) : (b_nb p).testBit q = true ↔ ∃ x, p.testBit x = true ∧ adj x q = true := by
  have e1 : (p * 256 % 2 ^ 64).testBit q = (decide (8 ≤ q) && p.testBit (q - 8)) := by
    rw [Nat.testBit_mod_two_pow, show 256 = 2 ^ 8 from rfl, Nat.testBit_mul_two_pow, decide_eq_true hq, Bool.true_and]
  have e2 : (p / 256).testBit q = p.testBit (q + 8) := by
    rw [show 256 = 2 ^ 8 from rfl, Nat.testBit_div_two_pow, Nat.add_comm]
  have e3 : ((p &&& b_LC) * 2 % 2 ^ 64).testBit q = (decide (1 ≤ q) && (p.testBit (q - 1) && b_LC.testBit (q - 1))) := by
    rw [Nat.testBit_mod_two_pow, show (p &&& b_LC) * 2 = (p &&& b_LC) * 2 ^ 1 from rfl, Nat.testBit_mul_two_pow, decide_eq_true hq, Bool.true_and, Nat.testBit_and]
  have e4 : ((p &&& b_FC) / 2).testBit q = (p.testBit (q + 1) && b_FC.testBit (q + 1)) := by
    rw [show (p &&& b_FC) / 2 = (p &&& b_FC) / 2 ^ 1 from rfl, Nat.testBit_div_two_pow, Nat.testBit_and, Nat.add_comm]
  unfold b_nb
  rw [Nat.testBit_or, Nat.testBit_or, Nat.testBit_or, e1, e2, e3, e4]
  simp only [Bool.or_eq_true, Bool.and_eq_true, decide_eq_true_eq]
  constructor
  · rintro (((⟨h1, h2⟩ | h) | ⟨h1, h2, h3⟩) | ⟨h1, h2⟩)
    · exact ⟨q - 8, h2, (adj_c (bit_hi hp h2)).mpr (Or.inl ⟨by omega, hq⟩)⟩
    · exact ⟨q + 8, h, (adj_c (bit_hi hp h)).mpr (Or.inr (Or.inl rfl))⟩
    · rw [LC_bit _ (by omega), decide_eq_true_eq] at h3
      exact ⟨q - 1, h2, (adj_c (bit_hi hp h2)).mpr (Or.inr (Or.inr (Or.inl ⟨by omega, h3⟩)))⟩
    · rw [FC_bit _ (bit_hi hp h1), decide_eq_true_eq] at h2
      exact ⟨q + 1, h1, (adj_c (bit_hi hp h1)).mpr (Or.inr (Or.inr (Or.inr ⟨rfl, h2⟩)))⟩
  · rintro ⟨x, hx, ha⟩
    have x64 := bit_hi hp hx
    rcases (adj_c x64).mp ha with ⟨h1, h2⟩ | h | ⟨h1, h2⟩ | ⟨h1, h2⟩
    · exact Or.inl (Or.inl (Or.inl ⟨by omega, by rw [show q - 8 = x by omega]; exact hx⟩))
    · exact Or.inl (Or.inl (Or.inr (by rw [h]; exact hx)))
    · exact Or.inl (Or.inr ⟨by omega, by rw [show q - 1 = x by omega]; exact hx, by rw [show q - 1 = x by omega, LC_bit _ x64, decide_eq_true_eq]; exact h2⟩)
    · exact Or.inr ⟨by rw [h1]; exact hx, by rw [h1, FC_bit _ x64, decide_eq_true_eq]; exact h2⟩
/-- the cluster after n steps lets nothing out -/
def b_cd (s l n : Nat) : Prop := ∀ y z, (b_cl s l n).testBit y = true → adj y z = true → l.testBit z = true → (b_cl s l n).testBit z = true
theorem b_cl_bit {s l : Nat} (hs : s < 2 ^ 64) (hl : l < 2 ^ 64) (n x : Nat) (hx : x < 64) : (b_cl s l (n + 1)).testBit x = true ↔ (b_cl s l n).testBit x = true ∨ (l.testBit x = true ∧ ∃ y, (b_cl s l n).testBit y = true ∧ adj y x = true) := by
  show (b_cl s l n ||| (b_nb (b_cl s l n) &&& l)).testBit x = true ↔ _
  rw [Nat.testBit_or, Nat.testBit_and, Bool.or_eq_true, Bool.and_eq_true, b_nb_bit (b_cl_lt hs hl n) hx]
  exact or_congr Iff.rfl and_comm
theorem b_cl_grow {s l : Nat} (hs : s < 2 ^ 64) (hl : l < 2 ^ 64) (h1 : 1 ≤ popc s) : ∀ n, b_cd s l n ∨ n + 1 ≤ popc (b_cl s l n)
  | 0 => Or.inr h1
  | n + 1 => by
    have A := b_cl_bit hs hl n
    rcases b_cl_grow hs hl h1 n with h | h
    · refine Or.inl fun y z hy ha hz => ?_
      have z64 := bit_hi hl hz
      have y64 := bit_hi (b_cl_lt hs hl (n + 1)) hy
      have hy : (b_cl s l n).testBit y = true := by
        rcases (A y y64).mp hy with hy | ⟨hy, x, x1, x2⟩
        · exact hy
        · exact h x y x1 x2 hy
      exact (A z z64).mpr (Or.inl (h y z hy ha hz))
    · by_cases c : b_cd s l n
      · refine Or.inl fun y z hy ha hz => ?_
        have z64 := bit_hi hl hz
        have y64 := bit_hi (b_cl_lt hs hl (n + 1)) hy
        have hy : (b_cl s l n).testBit y = true := by
          rcases (A y y64).mp hy with hy | ⟨hy, x, x1, x2⟩
          · exact hy
          · exact c x y x1 x2 hy
        exact (A z z64).mpr (Or.inl (c y z hy ha hz))
      · refine Or.inr ?_
        obtain ⟨y, hc⟩ := Classical.not_forall.mp c
        obtain ⟨z, hc⟩ := Classical.not_forall.mp hc
        have hy : (b_cl s l n).testBit y = true := Classical.byContradiction fun w => hc fun a => absurd a w
        have ha : adj y z = true := Classical.byContradiction fun w => hc fun _ a => absurd a w
        have hz : l.testBit z = true := Classical.byContradiction fun w => hc fun _ _ a => absurd a w
        have hn : (b_cl s l n).testBit z = false := by
          cases hb : (b_cl s l n).testBit z with
          | false => rfl
          | true => exact (hc fun _ _ _ => hb).elim
        have z64 := bit_hi hl hz
        have e := fb_ct_upd (fun k => (b_cl s l n).testBit k) true z64
        rw [hn, if_neg (by decide), if_pos rfl, Nat.add_zero] at e
        have le : fb_ct (fun k => if k = z then true else (b_cl s l n).testBit k) 64 ≤ popc (b_cl s l (n + 1)) := fb_ct_sub fun k hk hb => by
          by_cases w : k = z
          · rw [w]
            exact (A z z64).mpr (Or.inr ⟨hz, y, hy, ha⟩)
          · have hb : (if k = z then true else (b_cl s l n).testBit k) = true := hb
            rw [if_neg w] at hb
            exact (A k hk).mpr (Or.inl hb)
        have e2 : popc (b_cl s l n) = fb_ct (fun k => (b_cl s l n).testBit k) 64 := rfl
        omega
theorem b_cl_closed {s l : Nat} (hs : s < 2 ^ 64) (hl : l < 2 ^ 64) (h1 : 1 ≤ popc s) : b_cd s l 64 := by
  rcases b_cl_grow hs hl h1 64 with h | h
  · exact h
  · have := popc_le (b_cl s l 64)
    omega
theorem b_cl_mono {s l : Nat} (hs : s < 2 ^ 64) (hl : l < 2 ^ 64) {x : Nat} (hx : s.testBit x = true) : ∀ n, (b_cl s l n).testBit x = true
  | 0 => hx
  | n + 1 => (b_cl_bit hs hl n x (bit_hi hs hx)).mpr (Or.inl (b_cl_mono hs hl hx n))
/-- side by side on taken places -/
def bR (t p q : Nat) : Bool := (t.testBit p && t.testBit q) && adj p q
def bV (t p : Nat) : Prop := t.testBit p = true
theorem bR_iff {t p q : Nat} : bR t p q = true ↔ (t.testBit p = true ∧ t.testBit q = true) ∧ adj p q = true := by
  unfold bR
  rw [Bool.and_eq_true, Bool.and_eq_true]
theorem bR_sy (t : Nat) : ∀ x y, x < 64 → y < 64 → bR t x y = true → bR t y x = true := fun x y hx _ h => by
  obtain ⟨⟨h1, h2⟩, h3⟩ := bR_iff.mp h
  exact bR_iff.mpr ⟨⟨h2, h1⟩, adj_sy hx h3⟩
theorem popc_two (q : Nat) (hq : q < 64) : 1 ≤ popc (2 ^ q) := fb_ct_pos.mpr ⟨q, hq, Nat.testBit_two_pow_self⟩
theorem b_cl_cn {t l q : Nat} (ht : t < 2 ^ 64) (hl : l < 2 ^ 64) (hq : q < 64) (hf : fst_ (bR t) (bV t) 64 q) (hL : ∀ x, x < 64 → (l.testBit x = true ↔ t.testBit x = true ∧ ¬ bO (bR t) (bV t) 64 q x)) : ∀ x, x < 64 → ((b_cl (2 ^ q) l 64).testBit x = true ↔ cn (bR t) 64 q x) := by
  have hs : 2 ^ q < 2 ^ 64 := Nat.pow_lt_pow_right (by decide) hq
  have tq : t.testBit q = true := hf.1
  have sound : ∀ n x, x < 64 → (b_cl (2 ^ q) l n).testBit x = true → t.testBit x = true ∧ cn (bR t) 64 q x := by
    intro n
    induction n with
    | zero =>
      intro x hx h
      have h : (2 ^ q).testBit x = true := h
      rw [Nat.testBit_two_pow, decide_eq_true_eq] at h
      subst h
      exact ⟨tq, cn.rf⟩
    | succ n ih =>
      intro x hx h
      rcases (b_cl_bit hs hl n x hx).mp h with h | ⟨h, y, y1, y2⟩
      · exact ih x hx h
      · have y64 := bit_hi (b_cl_lt hs hl n) y1
        obtain ⟨i1, i2⟩ := ih y y64 y1
        have tx := ((hL x hx).mp h).1
        exact ⟨tx, i2.tr (cn.st y64 hx (bR_iff.mpr ⟨⟨i1, tx⟩, y2⟩))⟩
  have cd := b_cl_closed hs hl (popc_two q hq)
  refine fun x hx => ⟨fun h => (sound 64 x hx h).2, fun h => ?_⟩
  refine h (fun y => (b_cl (2 ^ q) l 64).testBit y = true) (b_cl_mono hs hl Nat.testBit_two_pow_self 64) fun y z hy hz py hr => ?_
  obtain ⟨⟨r1, r2⟩, r3⟩ := bR_iff.mp hr
  refine cd y z py r3 ((hL z hz).mpr ⟨r2, fun ⟨j, j1, j2, j3⟩ => ?_⟩)
  have jy : cn (bR t) 64 j y := j3.tr (cn.st hz hy (bR_sy t y z hy hz hr))
  exact hf.2 j j1 j2 (jy.tr ((sound 64 y hy py).2.sy (bR_sy t)))
theorem b_lc_spec {t : Nat} (ht : t < 2 ^ 64) : ∀ q, q ≤ 64 → (∀ x, x < 64 → ((b_lc t q).1.testBit x = true ↔ t.testBit x = true ∧ ¬ bO (bR t) (bV t) 64 q x)) ∧ (b_lc t q).2 = mxF (bR t) (bV t) 64 q
  | 0, _ => ⟨fun x _ => ⟨fun h => ⟨h, fun ⟨j, j1, _⟩ => absurd j1 (Nat.not_lt_zero _)⟩, fun h => h.1⟩, rfl⟩
  | q + 1, hq => by
    obtain ⟨i1, i2⟩ := b_lc_spec ht q (by omega)
    have ll := (b_lc_lt ht q).1
    have q64 : q < 64 := by omega
    have st : b_lc t (q + 1) = if (b_lc t q).1.testBit q then ((b_lc t q).1 &&& (b_cl (2 ^ q) (b_lc t q).1 64 ^^^ (2 ^ 64 - 1)), max (b_lc t q).2 (popc (b_cl (2 ^ q) (b_lc t q).1 64))) else b_lc t q := rfl
    have sm : mxF (bR t) (bV t) 64 (q + 1) = bif cb (fst_ (bR t) (bV t) 64 q) then max (mxF (bR t) (bV t) 64 q) (cs (bR t) 64 q) else mxF (bR t) (bV t) 64 q := rfl
    by_cases hb : (b_lc t q).1.testBit q = true
    · obtain ⟨b1, b2⟩ := (i1 q q64).mp hb
      have hf : fst_ (bR t) (bV t) 64 q := fst_iff.mpr ⟨b1, b2⟩
      have hc := b_cl_cn ht ll q64 hf i1
      rw [st, if_pos hb, sm, cb_iff.mpr hf]
      refine ⟨fun x hx => ?_, ?_⟩
      · show ((b_lc t q).1 &&& (b_cl (2 ^ q) (b_lc t q).1 64 ^^^ (2 ^ 64 - 1))).testBit x = true ↔ _
        rw [Nat.testBit_and, Nat.testBit_xor, Nat.testBit_two_pow_sub_one, decide_eq_true hx, Bool.and_eq_true, i1 x hx, bO.s]
        have e : ((b_cl (2 ^ q) (b_lc t q).1 64).testBit x ^^ true) = true ↔ ¬ cn (bR t) 64 q x := by
          rw [← hc x hx]
          cases (b_cl (2 ^ q) (b_lc t q).1 64).testBit x <;> decide
        rw [e]
        constructor
        · rintro ⟨⟨a1, a2⟩, a3⟩
          exact ⟨a1, fun z => z.elim a2 (fun z => a3 z.2)⟩
        · rintro ⟨a1, a2⟩
          exact ⟨⟨a1, fun z => a2 (Or.inl z)⟩, fun z => a2 (Or.inr ⟨b1, z⟩)⟩
      · show max (b_lc t q).2 (popc (b_cl (2 ^ q) (b_lc t q).1 64)) = max _ _
        rw [i2]
        congr 1
        unfold popc cs
        refine fb_ct_cong fun x hx => ?_
        rw [Bool.eq_iff_iff, cb_iff]
        exact hc x hx
    · have nf : ¬ fst_ (bR t) (bV t) 64 q := fun z => hb ((i1 q q64).mpr ⟨z.1, (fst_iff.mp z).2⟩)
      rw [st, if_neg hb, sm, cb_f.mpr nf]
      refine ⟨fun x hx => ?_, i2⟩
      rw [i1 x hx, bO.s]
      refine and_congr Iff.rfl (not_congr ⟨Or.inl, fun z => z.elim id fun ⟨z1, z2⟩ => ?_⟩)
      by_cases y : bO (bR t) (bV t) 64 q q
      · obtain ⟨j, j1, j2, j3⟩ := y
        exact ⟨j, j1, j2, j3.tr z2⟩
      · exact absurd (fst_iff.mpr ⟨z1, y⟩) nf
