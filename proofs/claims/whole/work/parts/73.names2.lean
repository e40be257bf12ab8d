/-! BOTH SIDES COUNT THE SAME GROUPS -/
theorem k_pp_iff {σ : jj_S} {al : Bool} {a b : Nat} : ∀ n, k_pp σ al a b n = true ↔ ∃ d, d < n ∧ k_p1 σ al a b d = true
  | 0 => ⟨fun h => (by cases h), fun ⟨d, hd, _⟩ => absurd hd (Nat.not_lt_zero _)⟩
  | n + 1 => by
    show (k_pp σ al a b n || _) = true ↔ _
    rw [Bool.or_eq_true, k_pp_iff n]
    constructor
    · rintro (⟨d, h1, h2⟩ | h)
      · exact ⟨d, by omega, h2⟩
      · exact ⟨n, by omega, h⟩
    · rintro ⟨d, h1, h2⟩
      by_cases z : d = n
      · subst z
        exact Or.inr h2
      · exact Or.inl ⟨d, by omega, h2⟩
theorem s_at_of {σ : jj_S} (ok : s_ok σ) {k q : Nat} (hk : k < σ 12 3) (h : σ 11 k = q + 1) : s_at σ q = some k := by
  cases hs : s_at σ q with
  | none => exact absurd h (s_at_none hs k hk)
  | some j =>
    obtain ⟨j1, j2⟩ := s_at_some hs
    rw [ok.2.2.2.2.2.1 j k j1 hk (by rw [j2, h]) (by omega)]
theorem nx_sy {n m k b d : Nat} (hn : 1 ≤ n ∧ n ≤ 4) (hm : m < n) (hk : k < n) (hd : d < 4) (hb : b < 2) (h : k = s_nx n m b d % n) : m = s_nx n k b ((d + 2) % 4) % n := by
  subst h
  rcases (show b = 0 ∨ b = 1 by omega) with rfl | rfl <;> rcases lt4 hd with rfl | rfl | rfl | rfl <;> simp only [s_nx] <;> rcases (show n = 1 ∨ n = 2 ∨ n = 3 ∨ n = 4 by omega) with rfl | rfl | rfl | rfl <;> omega
theorem s_fit_sy {σ : jj_S} (ok : s_ok σ) {a b d : Nat} (ha : a < σ 12 3) (hb : b < σ 12 3) (hd : d < 4) (h : s_fit σ a d b = true) : s_fit σ b ((d + 2) % 4) a = true := by
  have ta := s_teeth_le ok ha hd
  obtain ⟨-, -, -, -, a5, a6, a7, a8⟩ := ok.kn ha
  obtain ⟨-, -, -, -, b5, b6, b7, b8⟩ := ok.kn hb
  unfold s_fit s_mk at h ⊢
  simp only [Bool.and_eq_true, decide_eq_true_eq, and_assoc] at h ⊢
  obtain ⟨h1, h2, h3, h4, h5, h6, h7, h8, h9⟩ := h
  have dd : ((d + 2) % 4 + 2) % 4 = d := by omega
  have ea : s_all σ b ((d + 2) % 4) = s_all σ a d := by
    unfold s_all s_g
    rw [show (d + 2) % 4 % 2 = d % 2 by omega]
    rcases (show d % 2 = 0 ∨ d % 2 = 1 by omega) with z | z <;> rw [z]
    · rw [Nat.add_zero, h6]
    · rw [show 6 + 1 = 7 from rfl, h7]
  rw [dd, ea, h3, ← h5]
  rw [← h5] at b5 b6 b7 b8
  refine ⟨by omega, by omega, by omega, Ne.symm h4, rfl, h6.symm, h7.symm, ?_, ?_⟩
  · exact nx_sy ⟨b6.1, b6.2⟩ a7 b7 hd (by decide) h8
  · exact nx_sy ⟨b5.1, b5.2⟩ a8 b8 hd (by decide) h9
theorem s_bp_sy {r c d q : Nat} (hr : r < 8) (hc : c < 8) (hd : d < 4) (h : s_bp r c d = some q) : s_bp (q / 8) (q % 8) ((d + 2) % 4) = some (8 * r + c) := by
  rcases lt4 hd with rfl | rfl | rfl | rfl
  · have h : (if r = 0 then none else some (8 * (r - 1) + c)) = some q := h
    split at h
    · cases h
    · cases h
      rw [show (8 * (r - 1) + c) / 8 = r - 1 by omega, show (8 * (r - 1) + c) % 8 = c by omega]
      show (if r - 1 = 7 then none else some (8 * (r - 1 + 1) + c)) = _
      rw [if_neg (by omega), show r - 1 + 1 = r by omega]
  · have h : (if c = 7 then none else some (8 * r + (c + 1))) = some q := h
    split at h
    · cases h
    · cases h
      rw [show (8 * r + (c + 1)) / 8 = r by omega, show (8 * r + (c + 1)) % 8 = c + 1 by omega]
      show (if c + 1 = 0 then none else some (8 * r + (c + 1 - 1))) = _
      rw [if_neg (by omega)]
      rfl
  · have h : (if r = 7 then none else some (8 * (r + 1) + c)) = some q := h
    split at h
    · cases h
    · cases h
      rw [show (8 * (r + 1) + c) / 8 = r + 1 by omega, show (8 * (r + 1) + c) % 8 = c by omega]
      show (if r + 1 = 0 then none else some (8 * (r + 1 - 1) + c)) = _
      rw [if_neg (by omega)]
      rfl
  · have h : (if c = 0 then none else some (8 * r + (c - 1))) = some q := h
    split at h
    · cases h
    · cases h
      rw [show (8 * r + (c - 1)) / 8 = r by omega, show (8 * r + (c - 1)) % 8 = c - 1 by omega]
      show (if c - 1 = 7 then none else some (8 * r + (c - 1 + 1))) = _
      rw [if_neg (by omega), show c - 1 + 1 = c by omega]
theorem s_nb_some {σ : jj_S} {r c d j : Nat} (h : s_nb σ r c d = some j) : ∃ q, s_bp r c d = some q ∧ s_at σ q = some j := by
  unfold s_nb at h
  cases hb : s_bp r c d with
  | none => rw [hb] at h; cases h
  | some q =>
    rw [hb] at h
    exact ⟨q, rfl, h⟩
theorem k_R_sy {σ : jj_S} (ok : s_ok σ) (al : Bool) : ∀ x y, x < σ 12 3 → y < σ 12 3 → k_R σ al x y = true → k_R σ al y x = true := by
  intro a b ha hb h
  obtain ⟨d, hd, h⟩ := (k_pp_iff 4).mp h
  refine (k_pp_iff 4).mpr ⟨(d + 2) % 4, by omega, ?_⟩
  cases al with
  | false => exact s_fit_sy ok ha hb hd h
  | true =>
    have h : (decide (σ 11 a ≠ 0) && decide (s_nb σ ((σ 11 a - 1) / 8) ((σ 11 a - 1) % 8) d = some b)) = true := h
    rw [Bool.and_eq_true, decide_eq_true_eq, decide_eq_true_eq] at h
    obtain ⟨h1, h2⟩ := h
    have h64 := (ok.2.2.2.2.1 a ha).2.2.2.1
    obtain ⟨q, q1, q2⟩ := s_nb_some h2
    have q3 := (s_at_some q2).2
    have q4 := s_bp_sy (show (σ 11 a - 1) / 8 < 8 by omega) (show (σ 11 a - 1) % 8 < 8 by omega) hd q1
    show (decide (σ 11 b ≠ 0) && decide (s_nb σ ((σ 11 b - 1) / 8) ((σ 11 b - 1) % 8) ((d + 2) % 4) = some a)) = true
    rw [Bool.and_eq_true, decide_eq_true_eq, decide_eq_true_eq]
    refine ⟨by omega, ?_⟩
    rw [q3, Nat.add_sub_cancel]
    unfold s_nb
    rw [q4]
    exact s_at_of ok ha (by omega)
/-- a naming tells what hangs together, as far as the pairs S have been looked at -/
def gI (R : Nat → Nat → Bool) (n : Nat) (S : Nat → Nat → Prop) (g : Nat → Nat) : Prop :=
  (∀ x, x < n → g x < n ∧ cn R n x (g x) ∧ g (g x) = g x) ∧ ∀ a b, a < n → b < n → S a b → R a b = true → g a = g b
theorem gI.st {σ : jj_S} {R : Nat → Nat → Bool} {n : Nat} {S : Nat → Nat → Prop} {g : Nat → Nat} {a b : Nat} (hR : ∀ x y, x < n → y < n → R x y = true → R y x = true) (hj : ∀ x y, s_jn σ x y = R x y) (ha : a < n) (hb : b < n) (h : gI R n S g) : gI R n (fun x y => S x y ∨ (x = a ∧ y = b)) (g_st σ g a b) := by
  obtain ⟨h1, h2⟩ := h
  unfold g_st
  split
  next z =>
    obtain ⟨z1, z2⟩ := z
    rw [hj] at z2
    have key : ∀ x, x < n → g_ren g (g b) (g a) x < n ∧ cn R n x (g_ren g (g b) (g a) x) ∧ g_ren g (g b) (g a) (g_ren g (g b) (g a) x) = g_ren g (g b) (g a) x := by
      intro x hx
      obtain ⟨c1, c2, c3⟩ := h1 x hx
      obtain ⟨a1, a2, a3⟩ := h1 a ha
      obtain ⟨b1, b2, b3⟩ := h1 b hb
      by_cases y : g x = g b
      · have e : g_ren g (g b) (g a) x = g a := if_pos y
        rw [e]
        refine ⟨a1, ?_, ?_⟩
        · have s1 : cn R n x b := c2.tr (y ▸ b2.sy hR)
          exact (s1.tr ((cn.st ha hb z2).sy hR)).tr a2
        · show (if g (g a) = g b then g a else g (g a)) = g a
          rw [a3, if_neg z1]
      · have e : g_ren g (g b) (g a) x = g x := if_neg y
        rw [e]
        refine ⟨c1, c2, ?_⟩
        show (if g (g x) = g b then g a else g (g x)) = g x
        rw [c3, if_neg y]
    refine ⟨key, fun x y hx hy hs hr => ?_⟩
    have same : g x = g y → g_ren g (g b) (g a) x = g_ren g (g b) (g a) y := fun e => by
      unfold g_ren
      rw [e]
    rcases hs with hs | ⟨rfl, rfl⟩
    · exact same (h2 x y hx hy hs hr)
    · show (if g x = g y then g x else g x) = if g y = g y then g x else g y
      rw [if_pos rfl, if_neg z1]
  next z =>
    refine ⟨h1, fun x y hx hy hs hr => ?_⟩
    rcases hs with hs | ⟨rfl, rfl⟩
    · exact h2 x y hx hy hs hr
    · rw [hj] at z
      exact Classical.not_not.mp fun e => z ⟨e, hr⟩
theorem gI.mono {R : Nat → Nat → Bool} {n : Nat} {S T : Nat → Nat → Prop} {g : Nat → Nat} (h : gI R n S g) (hs : ∀ x y, T x y → S x y) : gI R n T g := ⟨h.1, fun a b ha hb ht hr => h.2 a b ha hb (hs a b ht) hr⟩
theorem gI.row {σ : jj_S} {R : Nat → Nat → Bool} {n b : Nat} {S : Nat → Nat → Prop} {g : Nat → Nat} (hR : ∀ x y, x < n → y < n → R x y = true → R y x = true) (hj : ∀ x y, s_jn σ x y = R x y) (hb : b < n) (h : gI R n S g) : ∀ a, a ≤ b → gI R n (fun x y => S x y ∨ (x < a ∧ y = b)) (g_row σ g b a)
  | 0, _ => h.mono fun x y z => z.elim id (fun z => absurd z.1 (Nat.not_lt_zero _))
  | a + 1, ha => ((gI.row hR hj hb h a (by omega)).st hR hj (by omega) hb).mono fun x y z => by
    rcases z with z | ⟨z1, z2⟩
    · exact Or.inl (Or.inl z)
    · by_cases y : x = a
      · exact Or.inr ⟨y, z2⟩
      · exact Or.inl (Or.inr ⟨by omega, z2⟩)
theorem gI.nm {σ : jj_S} {R : Nat → Nat → Bool} {n : Nat} (hR : ∀ x y, x < n → y < n → R x y = true → R y x = true) (hj : ∀ x y, s_jn σ x y = R x y) : ∀ b, b ≤ n → gI R n (fun x y => x < y ∧ y < b) (g_nm σ b)
  | 0, _ => ⟨fun x hx => ⟨hx, cn.rf, rfl⟩, fun a b _ _ h => absurd h.2 (Nat.not_lt_zero _)⟩
  | b + 1, hb => ((gI.nm hR hj b (by omega)).row hR hj (by omega) b (Nat.le_refl _)).mono fun x y z => by
    by_cases e : y = b
    · exact Or.inr ⟨by omega, e⟩
    · exact Or.inl ⟨z.1, by omega⟩
theorem s_jnn_k (σ : jj_S) (a b : Nat) : ∀ n, s_jnn σ a b n = k_pp σ false a b n
  | 0 => rfl
  | n + 1 => by
    show (s_jnn σ a b n || s_fit σ a n b) = (k_pp σ false a b n || s_fit σ a n b)
    rw [s_jnn_k σ a b n]
/-- two stamps have one name just if they hang together -/
theorem g_nm_iff {σ : jj_S} (ok : s_ok σ) : (∀ x, x < σ 12 3 → g_nm σ (σ 12 3) x < σ 12 3 ∧ g_nm σ (σ 12 3) (g_nm σ (σ 12 3) x) = g_nm σ (σ 12 3) x) ∧ ∀ x y, x < σ 12 3 → y < σ 12 3 → (g_nm σ (σ 12 3) x = g_nm σ (σ 12 3) y ↔ cn (k_R σ false) (σ 12 3) x y) := by
  have hR := k_R_sy ok false
  obtain ⟨h1, h2⟩ := gI.nm (σ := σ) hR (fun x y => s_jnn_k σ x y 4) (σ 12 3) (Nat.le_refl _)
  refine ⟨fun x hx => ⟨(h1 x hx).1, (h1 x hx).2.2⟩, fun x y hx hy => ⟨fun e => ?_, fun hc => ?_⟩⟩
  · exact (h1 x hx).2.1.tr (e ▸ (h1 y hy).2.1.sy hR)
  · exact hc (fun z => g_nm σ (σ 12 3) x = g_nm σ (σ 12 3) z) rfl (fun u v hu hv e hr => e.trans (by
      rcases Nat.lt_or_ge u v with z | z
      · exact h2 u v hu hv ⟨z, hv⟩ hr
      · by_cases w : u = v
        · rw [w]
        · exact (h2 v u hv hu ⟨by omega, hu⟩ (hR u v hu hv hr)).symm))
theorem g_cr_ct (σ : jj_S) : ∀ n, g_cr σ n = fb_ct (fun x => decide (g_nm σ (σ 12 3) x = x)) n
  | 0 => rfl
  | n + 1 => by
    rw [fb_ct_succ, ← g_cr_ct σ n]
    show (if _ then _ else _) = _
    by_cases z : g_nm σ (σ 12 3) n = n
    · rw [if_pos z, decide_eq_true z, if_pos rfl]
    · rw [if_neg z, decide_eq_false z, if_neg (by decide), Nat.add_zero]
theorem g_sz_ct (σ : jj_S) (x : Nat) : ∀ n, g_sz σ x n = fb_ct (fun y => decide (g_nm σ (σ 12 3) y = x)) n
  | 0 => rfl
  | n + 1 => by
    rw [fb_ct_succ, ← g_sz_ct σ x n]
    show (if _ then _ else _) = _
    by_cases z : g_nm σ (σ 12 3) n = x
    · rw [if_pos z, decide_eq_true z, if_pos rfl]
    · rw [if_neg z, decide_eq_false z, if_neg (by decide), Nat.add_zero]
theorem e_9 {σ : jj_S} (ok : s_ok σ) : g_cr σ (σ 12 3) = ctF (k_R σ false) (k_V σ false) (σ 12 3) (σ 12 3) := by
  obtain ⟨h1, h2⟩ := g_nm_iff ok
  have hR := k_R_sy ok false
  rw [g_cr_ct]
  unfold ctF
  apply Nat.le_antisymm
  · have ch : ∀ x, ∃ j, x < σ 12 3 → j < σ 12 3 ∧ fst_ (k_R σ false) (k_V σ false) (σ 12 3) j ∧ cn (k_R σ false) (σ 12 3) j x := fun x => by
      by_cases hx : x < σ 12 3
      · obtain ⟨j, j1, j2, j3, _⟩ := fst_of (V := k_V σ false) hR hx (Or.inl rfl)
        exact ⟨j, fun _ => ⟨j1, j2, j3⟩⟩
      · exact ⟨0, fun z => absurd z hx⟩
    refine ct_inj (fun x => Classical.choose (ch x)) (fun x hx _ => ?_) (fun x y hx hy px py e => ?_)
    · have := Classical.choose_spec (ch x) hx
      exact ⟨this.1, cb_iff.mpr this.2.1⟩
    · have cx := (Classical.choose_spec (ch x) hx).2.2
      have cy := (Classical.choose_spec (ch y) hy).2.2
      have e : Classical.choose (ch x) = Classical.choose (ch y) := e
      rw [← e] at cy
      have := (h2 x y hx hy).mpr ((cx.sy hR).tr cy)
      rw [decide_eq_true_eq] at px py
      rw [px, py] at this
      exact this
  · refine ct_inj (fun x => g_nm σ (σ 12 3) x) (fun x hx _ => ⟨(h1 x hx).1, decide_eq_true (h1 x hx).2⟩) (fun x y hx hy px py e => ?_)
    have hc := (h2 x y hx hy).mp e
    have fx := cb_iff.mp px
    have fy := cb_iff.mp py
    rcases Nat.lt_or_ge x y with z | z
    · exact absurd hc (fy.2 x z (Or.inl rfl))
    · rcases Nat.lt_or_ge y x with w | w
      · exact absurd (hc.sy hR) (fx.2 y w (Or.inl rfl))
      · omega
theorem g_lg_spec (σ : jj_S) : ∀ n, (∀ x, x < n → g_sz σ x (σ 12 3) ≤ g_lg σ n) ∧ (g_lg σ n = 0 ∨ ∃ x, x < n ∧ g_lg σ n = g_sz σ x (σ 12 3))
  | 0 => ⟨fun x hx => absurd hx (Nat.not_lt_zero _), Or.inl rfl⟩
  | n + 1 => by
    obtain ⟨i1, i2⟩ := g_lg_spec σ n
    have st : g_lg σ (n + 1) = max (g_lg σ n) (g_sz σ n (σ 12 3)) := rfl
    rw [st]
    refine ⟨fun x hx => ?_, ?_⟩
    · by_cases z : x = n
      · rw [z]
        exact Nat.le_max_right _ _
      · exact Nat.le_trans (i1 x (by omega)) (Nat.le_max_left _ _)
    · rcases Nat.le_total (g_lg σ n) (g_sz σ n (σ 12 3)) with z | z
      · rw [Nat.max_eq_right z]
        exact Or.inr ⟨n, by omega, rfl⟩
      · rw [Nat.max_eq_left z]
        rcases i2 with i2 | ⟨x, x1, x2⟩
        · exact Or.inl i2
        · exact Or.inr ⟨x, by omega, x2⟩
theorem e_10 {σ : jj_S} (ok : s_ok σ) : g_lg σ (σ 12 3) = mxF (k_R σ false) (k_V σ false) (σ 12 3) (σ 12 3) := by
  obtain ⟨h1, h2⟩ := g_nm_iff ok
  have hR := k_R_sy ok false
  obtain ⟨l1, l2⟩ := g_lg_spec σ (σ 12 3)
  obtain ⟨m1, m2⟩ := mxF_spec (R := k_R σ false) (V := k_V σ false) (n := σ 12 3) (σ 12 3)
  have sz : ∀ x, x < σ 12 3 → g_sz σ (g_nm σ (σ 12 3) x) (σ 12 3) = cs (k_R σ false) (σ 12 3) x := fun x hx => by
    rw [g_sz_ct]
    refine fb_ct_cong fun y hy => ?_
    rw [Bool.eq_iff_iff, decide_eq_true_eq, cb_iff, ← h2 x y hx hy]
    exact eq_comm
  apply Nat.le_antisymm
  · rcases l2 with l2 | ⟨x, x1, x2⟩
    · rw [l2]
      exact Nat.zero_le _
    · rw [x2]
      by_cases e : g_sz σ x (σ 12 3) = 0
      · rw [e]
        exact Nat.zero_le _
      · have pos : 0 < fb_ct (fun y => decide (g_nm σ (σ 12 3) y = x)) (σ 12 3) := by
          rw [← g_sz_ct]
          omega
        obtain ⟨y, y1, y2⟩ := fb_ct_pos.mp pos
        have y2 : g_nm σ (σ 12 3) y = x := of_decide_eq_true y2
        rw [← y2, sz y y1]
        obtain ⟨j, j1, j2, _, j4⟩ := fst_of (V := k_V σ false) hR y1 (Or.inl rfl)
        rw [← j4]
        exact m1 j j1 j2
  · rcases m2 with m2 | ⟨k, k1, k2, k3⟩
    · rw [m2]
      exact Nat.zero_le _
    · rw [k3, ← sz k k1]
      exact l1 _ (h1 k k1).1
