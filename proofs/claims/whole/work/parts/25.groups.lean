/-! WHAT THE REST OF THE WORLD DOES NOT TOUCH -/
theorem x_rep.cong {X : Nat → Nat} {α : Nat → Nat → Nat} {τ : Nat → Nat} {σ : jj_S} {η η' : jj_H} (h : x_rep X α τ σ η) (hX : ∀ j, j < 8 → j ≠ 6 → η' (X j) = η (X j)) (hα : ∀ f i, s_live σ f i → η' (α f i) = η (α f i)) (h6 : ∃ g, η' (X 6) = some (x_i 40 g)) : x_rep X α τ σ η' := by
  obtain ⟨ok, tag, h0, h1, h2, h3, h4, ⟨a1, a2⟩, -, hp, hw, hs, hk⟩ := h
  refine ⟨ok, tag, (hX 0 (by decide) (by decide)).trans h0, ?_, ?_, ?_, ?_, ⟨(hX 5 (by decide) (by decide)).trans a1, ?_⟩, h6, fun p hp2 => ?_, fun w hw2 => (hα 4 w hw2).trans (hw w hw2), fun s hs2 => ?_, fun k hk2 => ?_⟩
  · rw [hX 1 (by decide) (by decide)]
    exact h1
  · rw [hX 2 (by decide) (by decide)]
    exact h2
  · rw [hX 3 (by decide) (by decide)]
    exact h3
  · rw [hX 4 (by decide) (by decide)]
    exact h4
  · rw [hX 7 (by decide) (by decide)]
    exact a2
  · obtain ⟨p1, p2, p3, p4⟩ := hp p hp2
    have hf := (ok.2.1 p hp2).1.2.2.2.2
    refine ⟨(hα 0 p hp2).trans p1, ?_, ?_, fun j hj => (hα 3 (10 * p + j) ?_).trans (p4 j hj)⟩
    · rw [hα 1 p hp2]
      exact p2
    · rw [hα 2 p hp2]
      exact p3
    · have e1 : (10 * p + j) / 10 = p := by omega
      have e2 : (10 * p + j) % 10 = j := by omega
      show (10 * p + j) / 10 < σ 12 0 ∧ (10 * p + j) % 10 < σ 2 ((10 * p + j) / 10)
      rw [e1, e2]
      exact ⟨hp2, hj⟩
  · obtain ⟨t, t1, t2, t3⟩ := hs s hs2
    exact ⟨t, t1, (hα 5 s hs2).trans t2, t3⟩
  · obtain ⟨k1, k2⟩ := hk k hk2
    refine ⟨(hα 6 k hk2).trans k1, ?_⟩
    rw [hα 7 k hk2]
    exact k2
theorem x_rep.ne6 {X : Nat → Nat} {α : Nat → Nat → Nat} {τ : Nat → Nat} {σ : jj_S} {η : jj_H} (h : x_rep X α τ σ η) : (∀ j, j < 8 → j ≠ 6 → X j ≠ X 6) ∧ ∀ f i, s_live σ f i → α f i ≠ X 6 := by
  obtain ⟨t1, t2⟩ := h.2.1
  have t6 := t1 6 (by decide)
  refine ⟨fun j hj h6 e => ?_, fun f i hl e => ?_⟩
  · have := t1 j hj
    rw [e] at this
    omega
  · have := t2 f i hl
    rw [e] at this
    omega
/-- the naming g stands in the bureau's row of groups; all else is as before -/
def g_W (X : Nat → Nat) (η η' : jj_H) (g : Nat → Nat) : Prop := (∀ b, b ≠ X 6 → η' b = η b) ∧ ∃ F, η' (X 6) = some (x_i 40 F) ∧ ∀ n, n < 40 → F n = nI (g n)
theorem x_rep.gW {X : Nat → Nat} {α : Nat → Nat → Nat} {τ : Nat → Nat} {σ : jj_S} {η η' : jj_H} (h : x_rep X α τ σ η) (h2 : (∀ b, b ≠ X 6 → η' b = η b) ∧ ∃ F, η' (X 6) = some (x_i 40 F)) : x_rep X α τ σ η' :=
  h.cong (fun j hj h6 => h2.1 _ (h.ne6.1 j hj h6)) (fun f i hl => h2.1 _ (h.ne6.2 f i hl)) h2.2
theorem x_rep.gw {X : Nat → Nat} {α : Nat → Nat → Nat} {τ : Nat → Nat} {σ : jj_S} {η η' : jj_H} (h : x_rep X α τ σ η) {g : Nat → Nat} (h2 : g_W X η η' g) : x_rep X α τ σ η' :=
  h.gW ⟨h2.1, h2.2.elim fun F hF => ⟨F, hF.1⟩⟩
theorem c_groupNamed {X : Nat → Nat} {α : Nat → Nat → Nat} {τ : Nat → Nat} {σ : jj_S} {η η' : jj_H} (h : x_rep X α τ σ η) (g : Nat → Nat) (h2 : g_W X η η' g) (n : Nat) (hn : n < 40) : jj_Ht mX6_groupNamed [.ref (X 0), .int (nI n)] η' 0 0 (fun v η'' => v = some (.int (nI (g n))) ∧ η'' = η') := by
  have h0 := (h.gw h2).2.2.1
  obtain ⟨-, F, h3, h4⟩ := h2
  have e40 : (nI 40).toInt = 40 := rfl
  refine jj_go tok_X6_groupNamed zok_X6 py_6 rfl 40 fun J => ?_
  refine ⟨fun c1 => ?_, fun c1 => ⟨_, h0, _, _, _, h3, fun c2 => ?_, fun c2 => ⟨_, h0, _, _, n, h3, rfl, hn, trivial, ⟨?_, rfl⟩, Nat.zero_le _, Nat.zero_le _⟩⟩⟩
  · rw [cb_lt, i0, iN (by omega)] at c1
    omega
  · rw [cb_ge, e40, iN (by omega)] at c2
    omega
  · rw [h4 n hn]
def g_ren (g : Nat → Nat) (x y : Nat) : Nat → Nat := fun n => if g n = x then y else g n
theorem c_renameGroup {X : Nat → Nat} {α : Nat → Nat → Nat} {τ : Nat → Nat} {σ : jj_S} {η η' : jj_H} (h : x_rep X α τ σ η) (g : Nat → Nat) (h2 : g_W X η η' g) (hg : ∀ n, n < 40 → g n < 40) (x y : Nat) (hx : x < 40) : jj_Ht mX6_renameGroup [.ref (X 0), .int (nI x), .int (nI y)] η' 0 0 (fun v η'' => v = none ∧ g_W X η η'' (g_ren g x y)) := by
  have e40 : (nI 40).toInt = 40 := rfl
  refine jj_lp tok_X6_renameGroup zok_X6 py_6 rfl fun J run => ?_
  have loop : ∀ m i, i + m = 40 → ∀ η1, g_W X η η1 (fun n => if n < i then g_ren g x y n else g n) → J η1 0 0 2 [(0, .ref (X 0)), (1, .int (nI x)), (2, .int (nI y)), (3, .int (nI i))] [] := by
    intro m
    induction m with
    | zero =>
      intro i hi η1 hw
      have h0 := (h.gw hw).2.2.1
      obtain ⟨w1, F, w2, w3⟩ := hw
      have w3 : ∀ n, n < 40 → F n = nI (if n < i then g_ren g x y n else g n) := w3
      refine run [] 20 ?_
      refine ⟨_, h0, _, _, _, w2, fun c1 => ?_, fun c1 => ?_⟩
      · refine ⟨⟨rfl, w1, F, w2, fun n hn => ?_⟩, Nat.zero_le _, Nat.zero_le _⟩
        rw [w3 n hn, if_pos (by omega)]
      · rw [cb_ge, e40, iN (by omega)] at c1
        omega
    | succ m ih =>
      intro i hi η1 hw
      have h0 := (h.gw hw).2.2.1
      have n60 := h.ne6.1 0 (by decide) (by decide)
      obtain ⟨w1, F, w2, w3⟩ := hw
      have w3 : ∀ n, n < 40 → F n = nI (if n < i then g_ren g x y n else g n) := w3
      have ih := ih (i + 1) (by omega)
      rw [← nI_add i 1] at ih
      have wi := w3 i (by omega)
      rw [if_neg (Nat.lt_irrefl i)] at wi
      have gi := hg i (by omega)
      refine run [(2, 4)] 40 ?_
      refine ⟨_, h0, _, _, _, w2, fun c1 => ?_, fun c1 => ⟨_, h0, _, _, i, w2, rfl, by omega, fun c2 => ?_, fun c2 => ?_⟩⟩
      · rw [cb_ge, e40, iN (by omega)] at c1
        omega
      · rw [cb_ne, wi, iN (by omega), iN (by omega)] at c2
        refine ih η1 ⟨w1, F, w2, fun n hn => ?_⟩
        show F n = nI (if n < i + 1 then g_ren g x y n else g n)
        rw [w3 n hn]
        rcases Nat.lt_trichotomy n i with z | z | z
        · rw [if_pos z, if_pos (by omega)]
        · rw [if_neg (by omega), if_pos (by omega), z]
          unfold g_ren
          rw [if_neg (by omega)]
        · rw [if_neg (by omega), if_neg (by omega)]
      · rw [cb_ne, wi, iN (by omega), iN (by omega)] at c2
        refine ⟨_, h0, _, _, i, w2, rfl, by omega, ih _ ⟨fun b hb => (up_n hb).trans (w1 b hb), _, up_s, fun n hn => ?_⟩⟩
        show upd F i (nI y) n = nI (if n < i + 1 then g_ren g x y n else g n)
        rcases Nat.lt_trichotomy n i with z | z | z
        · rw [pk_un (by omega), w3 n hn, if_pos z, if_pos (by omega)]
        · rw [z, pk_us, if_pos (by omega)]
          unfold g_ren
          rw [if_pos (by omega)]
        · rw [pk_un (by omega), w3 n hn, if_neg (by omega), if_neg (by omega)]
  refine run [(2, 4)] 20 ?_
  refine loop 40 0 rfl η' ?_
  obtain ⟨w1, F, w2, w3⟩ := h2
  exact ⟨w1, F, w2, fun n hn => by show F n = nI (if n < 0 then g_ren g x y n else g n); rw [w3 n hn, if_neg (Nat.not_lt_zero n)]⟩
def g_st (σ : jj_S) (g : Nat → Nat) (a b : Nat) : Nat → Nat := if g a ≠ g b ∧ s_jn σ a b = true then g_ren g (g b) (g a) else g
def g_row (σ : jj_S) (g : Nat → Nat) (b : Nat) : Nat → Nat → Nat
  | 0 => g
  | a + 1 => g_st σ (g_row σ g b a) a b
/-- the names of the stamps' groups when the stamps below b have been looked at -/
def g_nm (σ : jj_S) : Nat → Nat → Nat
  | 0 => fun n => n
  | b + 1 => g_row σ (g_nm σ b) b b
theorem g_ren_lt {g : Nat → Nat} {x y : Nat} (hg : ∀ n, n < 40 → g n < 40) (hy : y < 40) : ∀ n, n < 40 → g_ren g x y n < 40 := fun n hn => by
  unfold g_ren
  split
  · exact hy
  · exact hg n hn
theorem g_st_lt {σ : jj_S} {g : Nat → Nat} {a b : Nat} (hg : ∀ n, n < 40 → g n < 40) (ha : a < 40) : ∀ n, n < 40 → g_st σ g a b n < 40 := fun n hn => by
  unfold g_st
  split
  · exact g_ren_lt hg (hg a ha) n hn
  · exact hg n hn
theorem g_row_lt {σ : jj_S} {g : Nat → Nat} {b : Nat} (hg : ∀ n, n < 40 → g n < 40) : ∀ a, a ≤ 40 → ∀ n, n < 40 → g_row σ g b a n < 40
  | 0, _ => hg
  | a + 1, ha => g_st_lt (g_row_lt hg a (by omega)) (by omega)
theorem g_nm_lt {σ : jj_S} : ∀ b, b ≤ 40 → ∀ n, n < 40 → g_nm σ b n < 40
  | 0, _ => fun n hn => hn
  | b + 1, hb => g_row_lt (g_nm_lt b (by omega)) b (by omega)
theorem c_findGroups {X : Nat → Nat} {α : Nat → Nat → Nat} {τ : Nat → Nat} {σ : jj_S} {η : jj_H} (h : x_rep X α τ σ η) : jj_Ht mX6_findGroups [.ref (X 0)] η 0 0 (fun v η' => v = none ∧ g_W X η η' (g_nm σ (σ 12 3))) := by
  have hn : σ 12 3 ≤ 40 := h.1.1.2.2.2
  have e40 : (nI 40).toInt = 40 := rfl
  refine jj_lp tok_X6_findGroups zok_X6 py_6 rfl fun J run => ?_
  have inner : ∀ b, b < σ 12 3 → (∀ η1, g_W X η η1 (g_nm σ (b + 1)) → J η1 0 0 26 [(0, .ref (X 0)), (1, .int (nI (b + 1)))] []) → ∀ m a, a + m = b → ∀ η1, g_W X η η1 (g_row σ (g_nm σ b) b a) → J η1 0 0 36 [(0, .ref (X 0)), (1, .int (nI b)), (2, .int (nI a))] [] := by
    intro b hb hout m
    rw [← nI_add b 1] at hout
    induction m with
    | zero =>
      intro a ha η1 hw
      refine run [(26, 2)] 20 ?_
      refine ⟨fun c1 => ?_, fun c1 => ?_⟩
      · rw [show a = b by omega] at hw
        exact hout η1 hw
      · rw [cb_ge, iN (by omega), iN (by omega)] at c1
        omega
    | succ m ih =>
      intro a ha η1 hw
      have ih := ih (a + 1) (by omega)
      rw [← nI_add a 1] at ih
      have h1 := h.gw hw
      have h0 := h1.2.2.1
      have hlt := g_row_lt (g_nm_lt (σ := σ) b (by omega)) (σ := σ) (b := b) a (by omega)
      have la := hlt a (by omega)
      have lb := hlt b (by omega)
      refine run [(36, 3)] 80 ?_
      refine ⟨fun c1 => ?_, fun c1 => ⟨_, h0, 0, 0, _, c_groupNamed h _ hw a (by omega), Nat.le_refl _, Nat.le_refl _, fun v η2 hv => ?_⟩⟩
      · rw [cb_ge, iN (by omega), iN (by omega)] at c1
        omega
      obtain ⟨rfl, rfl⟩ := hv
      refine ⟨_, h0, 0, 0, _, c_groupNamed h _ hw b (by omega), Nat.le_refl _, Nat.le_refl _, fun v η1 hv => ?_⟩
      obtain ⟨rfl, rfl⟩ := hv
      refine ⟨fun c2 => ?_, fun c2 => ⟨_, h0, 0, 0, _, c_joinSomewhere h1 a b (by omega) hb, Nat.le_refl _, Nat.le_refl _, fun v η2 hv => ?_⟩⟩
      · rw [cb_eq, iN (by omega), iN (by omega)] at c2
        refine ih _ ?_
        show g_W X η _ (g_st σ _ a b)
        unfold g_st
        rw [if_neg (fun z => z.1 (by omega))]
        exact hw
      rw [cb_eq, iN (by omega), iN (by omega)] at c2
      obtain ⟨rfl, rfl⟩ := hv
      refine ⟨fun c3 => ?_, fun c3 => ⟨_, h0, 0, 0, _, c_groupNamed h _ hw b (by omega), Nat.le_refl _, Nat.le_refl _, fun v η1 hv => ?_⟩⟩
      · have c3 := b01_eq0 c3
        refine ih _ ?_
        show g_W X η _ (g_st σ _ a b)
        unfold g_st
        rw [if_neg (fun z => by rw [z.2] at c3; cases c3)]
        exact hw
      have c3 := b01_ne0 c3
      obtain ⟨rfl, rfl⟩ := hv
      refine ⟨_, h0, 0, 0, _, c_groupNamed h _ hw a (by omega), Nat.le_refl _, Nat.le_refl _, fun v η2 hv => ?_⟩
      obtain ⟨rfl, rfl⟩ := hv
      refine ⟨_, h0, 0, 0, _, c_renameGroup h _ hw hlt _ _ lb, Nat.le_refl _, Nat.le_refl _, fun v η1 hv => ?_⟩
      obtain ⟨rfl, hw2⟩ := hv
      refine ih _ ?_
      show g_W X η _ (g_st σ _ a b)
      unfold g_st
      rw [if_pos ⟨by omega, c3⟩]
      exact hw2
  have fin : ∀ b, σ 12 3 ≤ b → b ≤ 41 → ∀ η1, g_W X η η1 (g_nm σ (σ 12 3)) → J η1 0 0 26 [(0, .ref (X 0)), (1, .int (nI b))] [] := by
    intro b hb hb2 η1 hw
    have h0 := (h.gw hw).2.2.1
    refine run [] 20 ?_
    refine ⟨_, h0, fun c1 => ?_, fun c1 => ?_⟩
    · exact ⟨⟨rfl, hw⟩, Nat.zero_le _, Nat.zero_le _⟩
    · rw [cb_ge, iN (by omega), iN (by omega)] at c1
      omega
  have outer : ∀ m b, b + m = σ 12 3 → ∀ η1, g_W X η η1 (g_nm σ b) → J η1 0 0 26 [(0, .ref (X 0)), (1, .int (nI b))] [] := by
    intro m
    induction m with
    | zero =>
      intro b hb η1 hw
      have hb : b = σ 12 3 := hb
      exact fin b (by omega) (by omega) η1 (by rw [← hb]; exact hw)
    | succ m ih =>
      intro b hb η1 hw
      have h0 := (h.gw hw).2.2.1
      refine run [(36, 3)] 20 ?_
      refine ⟨_, h0, fun c1 => ?_, fun c1 => ?_⟩
      · rw [cb_ge, iN (by omega), iN (by omega)] at c1
        omega
      · exact inner b (by omega) (ih (b + 1) (by omega)) b 0 (by omega) η1 hw
  have first : ∀ m i, i + m = 40 → ∀ η1 F, (∀ b, b ≠ X 6 → η1 b = η b) → η1 (X 6) = some (x_i 40 F) → (∀ n, n < i → F n = nI n) → J η1 0 0 2 [(0, .ref (X 0)), (1, .int (nI i))] [] := by
    intro m
    induction m with
    | zero =>
      intro i hi η1 F w1 w2 w3
      have hi : i = 40 := hi
      have h0 := (h.gW ⟨w1, F, w2⟩).2.2.1
      have hw0 : g_W X η η1 (g_nm σ 0) := ⟨w1, F, w2, fun n hn => w3 n (by omega)⟩
      refine run [(26, 2)] 20 ?_
      refine ⟨_, h0, _, _, _, w2, fun c1 => ?_, fun c1 => ?_⟩
      · rcases Nat.eq_zero_or_pos (σ 12 3) with z | z
        · exact fin 1 (by omega) (by omega) η1 (by rw [z]; exact hw0)
        · exact outer (σ 12 3 - 1) 1 (by omega) η1 hw0
      · rw [cb_ge, e40, iN (by omega)] at c1
        omega
    | succ m ih =>
      intro i hi η1 F w1 w2 w3
      have h0 := (h.gW ⟨w1, F, w2⟩).2.2.1
      refine run [(2, 2)] 20 ?_
      have ih := ih (i + 1) (by omega)
      rw [← nI_add i 1] at ih
      refine ⟨_, h0, _, _, _, w2, fun c1 => ?_, fun c1 => ⟨_, h0, _, _, i, w2, rfl, by omega, ih _ _ (fun b hb => (up_n hb).trans (w1 b hb)) up_s fun n hn => ?_⟩⟩
      · rw [cb_ge, e40, iN (by omega)] at c1
        omega
      · rcases (show n = i ∨ n < i by omega) with z | z
        · rw [z, pk_us]
        · rw [pk_un (by omega)]
          exact w3 n z
  obtain ⟨F, hF⟩ := h.2.2.2.2.2.2.2.2.1
  refine run [(2, 2)] 20 ?_
  exact first 40 0 rfl η F (fun b hb => rfl) hF fun n hn => absurd hn (Nat.not_lt_zero n)
def g_cr (σ : jj_S) : Nat → Nat
  | 0 => 0
  | n + 1 => if g_nm σ (σ 12 3) n = n then g_cr σ n + 1 else g_cr σ n
theorem c_groups {X : Nat → Nat} {α : Nat → Nat → Nat} {τ : Nat → Nat} {σ : jj_S} {η : jj_H} (h : x_rep X α τ σ η) : jj_Ht mX6_groups [.ref (X 0)] η 0 0 (fun v η' => v = some (.int (nI (g_cr σ (σ 12 3)))) ∧ g_W X η η' (g_nm σ (σ 12 3))) := by
  have h0 := h.2.2.1
  have hn : σ 12 3 ≤ 40 := h.1.1.2.2.2
  refine jj_lp tok_X6_groups zok_X6 py_6 rfl fun J run => ?_
  have loop : ∀ m i, i + m = σ 12 3 → ∀ η1, g_W X η η1 (g_nm σ (σ 12 3)) → J η1 0 0 8 [(0, .ref (X 0)), (1, .int (nI (g_cr σ i))), (2, .int (nI i))] [] := by
    intro m
    induction m with
    | zero =>
      intro i hi η1 hw
      have hi : i = σ 12 3 := hi
      have h0 := (h.gw hw).2.2.1
      refine run [] 20 ?_
      refine ⟨_, h0, fun c1 => ?_, fun c1 => ?_⟩
      · rw [hi]
        exact ⟨trivial, ⟨rfl, hw⟩, Nat.zero_le _, Nat.zero_le _⟩
      · rw [cb_ge, iN (by omega), iN (by omega)] at c1
        omega
    | succ m ih =>
      intro i hi η1 hw
      have h0 := (h.gw hw).2.2.1
      have ih := ih (i + 1) (by omega)
      rw [← nI_add i 1] at ih
      have hlt := g_nm_lt (σ := σ) (σ 12 3) hn i (by omega)
      refine run [(8, 3)] 30 ?_
      refine ⟨_, h0, fun c1 => ?_, fun c1 => ⟨_, h0, 0, 0, _, c_groupNamed h _ hw i (by omega), Nat.le_refl _, Nat.le_refl _, fun v η2 hv => ?_⟩⟩
      · rw [cb_ge, iN (by omega), iN (by omega)] at c1
        omega
      obtain ⟨rfl, rfl⟩ := hv
      refine ⟨fun c2 => ?_, fun c2 => ?_⟩
      · rw [cb_ne, iN (by omega), iN (by omega)] at c2
        have e : g_cr σ (i + 1) = g_cr σ i := by
          conv => lhs; unfold g_cr
          rw [if_neg (by omega)]
        rw [e] at ih
        exact ih _ hw
      · rw [cb_ne, iN (by omega), iN (by omega)] at c2
        have e : g_cr σ (i + 1) = g_cr σ i + 1 := by
          conv => lhs; unfold g_cr
          rw [if_pos (by omega)]
        rw [e, ← nI_add _ 1] at ih
        exact ih _ hw
  refine run [(8, 3)] 20 ?_
  refine ⟨_, h0, 0, 0, _, c_findGroups h, Nat.le_refl _, Nat.le_refl _, fun v η1 hv => ?_⟩
  obtain ⟨rfl, hw⟩ := hv
  exact loop (σ 12 3) 0 (by omega) η1 hw
/-- how many stamps below n have the name x -/
def g_sz (σ : jj_S) (x : Nat) : Nat → Nat
  | 0 => 0
  | n + 1 => if g_nm σ (σ 12 3) n = x then g_sz σ x n + 1 else g_sz σ x n
def g_lg (σ : jj_S) : Nat → Nat
  | 0 => 0
  | x + 1 => max (g_lg σ x) (g_sz σ x (σ 12 3))
theorem g_sz_le (σ : jj_S) (x : Nat) : ∀ n, g_sz σ x n ≤ n
  | 0 => Nat.le_refl _
  | n + 1 => by
    have := g_sz_le σ x n
    unfold g_sz
    split <;> omega
theorem g_lg_le {σ : jj_S} (hn : σ 12 3 ≤ 40) : ∀ x, g_lg σ x ≤ 40
  | 0 => Nat.zero_le _
  | x + 1 => Nat.max_le.mpr ⟨g_lg_le hn x, Nat.le_trans (g_sz_le σ x _) hn⟩
theorem c_largestGroup {X : Nat → Nat} {α : Nat → Nat → Nat} {τ : Nat → Nat} {σ : jj_S} {η : jj_H} (h : x_rep X α τ σ η) : jj_Ht mX6_largestGroup [.ref (X 0)] η 0 0 (fun v η' => v = some (.int (nI (g_lg σ (σ 12 3)))) ∧ g_W X η η' (g_nm σ (σ 12 3))) := by
  have h0 := h.2.2.1
  have hn : σ 12 3 ≤ 40 := h.1.1.2.2.2
  refine jj_lp tok_X6_largestGroup zok_X6 py_6 rfl fun J run => ?_
  have inner : ∀ x, x < σ 12 3 → ∀ η1, g_W X η η1 (g_nm σ (σ 12 3)) → J η1 0 0 8 [(0, .ref (X 0)), (1, .int (nI (g_lg σ (x + 1)))), (2, .int (nI (x + 1)))] [] → ∀ m i, i + m = σ 12 3 → J η1 0 0 21 [(0, .ref (X 0)), (1, .int (nI (g_lg σ x))), (2, .int (nI x)), (3, .int (nI (g_sz σ x i))), (4, .int (nI i))] [] := by
    intro x hx η1 hw hout m
    have h0 := (h.gw hw).2.2.1
    have hl := g_lg_le hn x
    have hs := g_sz_le σ x (σ 12 3)
    have e : nI (g_lg σ (x + 1)) = if nI (g_lg σ x) < nI (g_sz σ x (σ 12 3)) then nI (g_sz σ x (σ 12 3)) else nI (g_lg σ x) := (i_max (by omega) (by omega)).symm
    rw [← nI_add x 1, e] at hout
    induction m with
    | zero =>
      intro i hi
      have hi : i = σ 12 3 := hi
      refine run [(8, 3)] 30 ?_
      refine ⟨_, h0, fun c1 => ?_, fun c1 => ?_⟩
      · rw [hi]
        exact ⟨Nat.zero_le _, Nat.zero_le _, hout⟩
      · rw [cb_ge, iN (by omega), iN (by omega)] at c1
        omega
    | succ m ih =>
      intro i hi
      have ih := ih (i + 1) (by omega)
      rw [← nI_add i 1] at ih
      have hlt := g_nm_lt (σ := σ) (σ 12 3) hn i (by omega)
      refine run [(21, 5)] 30 ?_
      refine ⟨_, h0, fun c1 => ?_, fun c1 => ⟨_, h0, 0, 0, _, c_groupNamed h _ hw i (by omega), Nat.le_refl _, Nat.le_refl _, fun v η2 hv => ?_⟩⟩
      · rw [cb_ge, iN (by omega), iN (by omega)] at c1
        omega
      obtain ⟨rfl, rfl⟩ := hv
      refine ⟨fun c2 => ?_, fun c2 => ?_⟩
      · rw [cb_ne, iN (by omega), iN (by omega)] at c2
        have e : g_sz σ x (i + 1) = g_sz σ x i := by
          conv => lhs; unfold g_sz
          rw [if_neg (by omega)]
        rw [e] at ih
        exact ih
      · rw [cb_ne, iN (by omega), iN (by omega)] at c2
        have e : g_sz σ x (i + 1) = g_sz σ x i + 1 := by
          conv => lhs; unfold g_sz
          rw [if_pos (by omega)]
        rw [e, ← nI_add _ 1] at ih
        exact ih
  have outer : ∀ η1, g_W X η η1 (g_nm σ (σ 12 3)) → ∀ m x, x + m = σ 12 3 → J η1 0 0 8 [(0, .ref (X 0)), (1, .int (nI (g_lg σ x))), (2, .int (nI x))] [] := by
    intro η1 hw m
    have h0 := (h.gw hw).2.2.1
    induction m with
    | zero =>
      intro x hx
      have hx : x = σ 12 3 := hx
      refine run [] 20 ?_
      refine ⟨_, h0, fun c1 => ?_, fun c1 => ?_⟩
      · rw [hx]
        exact ⟨trivial, ⟨rfl, hw⟩, Nat.zero_le _, Nat.zero_le _⟩
      · rw [cb_ge, iN (by omega), iN (by omega)] at c1
        omega
    | succ m ih =>
      intro x hx
      refine run [(21, 5)] 20 ?_
      refine ⟨_, h0, fun c1 => ?_, fun c1 => ?_⟩
      · rw [cb_ge, iN (by omega), iN (by omega)] at c1
        omega
      · exact inner x (by omega) η1 hw (ih (x + 1) (by omega)) (σ 12 3) 0 (by omega)
  refine run [(8, 3)] 20 ?_
  refine ⟨_, h0, 0, 0, _, c_findGroups h, Nat.le_refl _, Nat.le_refl _, fun v η1 hv => ?_⟩
  obtain ⟨rfl, hw⟩ := hv
  exact outer η1 hw (σ 12 3) 0 (by omega)
