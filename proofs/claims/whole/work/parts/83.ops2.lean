/-! ONE STEP OF THE LAW: the other operations -/
theorem g9_of {X : Nat → Nat} {τ : Nat → Nat} {σ' : jj_S} {η : jj_H} {R : Int32 → Prop} {q : Nat} (g9 : ∀ v η', w_G X τ σ' η R v η' → ∃ f, η' q = some (x_l 1 f)) : ∀ v η', w_G X τ σ' η R v η' → ∃ r f, v = some (.int r) ∧ η' q = some (x_l 1 f) := fun v η' g => by
  obtain ⟨f, hf⟩ := g9 v η' g
  obtain ⟨⟨r, hr, _⟩, _⟩ := g
  exact ⟨r, f, hr, hf⟩
theorem g_r {P : Prop} {r : Int32} {v : Option Value} (g : v = some (.int r) ∧ P) : (∃ x, v = some (.int x) ∧ x = r) ∧ P := ⟨⟨_, g.1, rfl⟩, g.2⟩
theorem g_g {X : Nat → Nat} {τ : Nat → Nat} {σ' : jj_S} {η : jj_H} {R : Int32 → Prop} {v : Option Value} {η' : jj_H} (g : (∃ r, v = some (.int r) ∧ R r) ∧ (∃ α' τ', x_rep X α' τ' σ' η' ∧ ∀ b, η b ≠ none → τ' b = τ b) ∧ x_fr τ η η') : w_G X τ σ' η R v η' := g
theorem o_addPaper {X Y : Nat → Nat} {q : Nat} {σ : jj_S} {th : Int32} {f : Nat → Int64} {η : jj_H} (hI : w_I X Y q σ th f η) (w k : Int32) : w_O w_T mX7_addPaper mL_addPaper hh_addPaper [.int w, .int k] X Y q η := by
  obtain ⟨α, τ, hx, hm, ht, hq, hf⟩ := hI
  obtain ⟨vs, hb⟩ := hx.b6
  by_cases hj : (j1 w 4 && j1 k 4) = true
  · obtain ⟨h1, h2⟩ := Bool.and_eq_true _ _ ▸ hj
    obtain ⟨w, rfl, hw⟩ := j1_of h1
    obtain ⟨k, rfl, hk⟩ := j1_of h2
    have h6 := hx.1.1.2.1
    by_cases hn : σ 12 1 = 4
    · exact w_no hx hm ht hq hf (nI_ne 2 (by decide)) (w_addPaper_x2 _ _ hb (f_addPaper_x2 hx w k hw hk hn)) (m_addPaper_x2 hm w k hw hk hn) (by decide) (by decide) (by decide) (by decide)
    · exact w_ok (· = nI (σ 12 1)) hx hm ht hq hf i_one (fun _ _ => trivial) (fun g9 => w_addPaper_ok _ _ hb ((f_addPaper_ok hx w k hw hk (by omega)).mono (fun v η' g => g_g (g_r g)) (fun _ h => h)) (g9_of g9)) (fun η' h9 ok9 => (m_addPaper_ok h9 w k hw hk (by omega)).mono fun _ _ => m_on) (by decide) (by decide) (by decide) (by decide)
  · exact w_no hx hm ht hq hf (nI_ne 1 (by decide)) (w_addPaper_x1 _ _ hb (f_addPaper_x1 X η w k (b_f hj))) (m_addPaper_x1 hm w k (b_f hj)) (by decide) (by decide) (by decide) (by decide)
theorem o_addFlaw {X Y : Nat → Nat} {q : Nat} {σ : jj_S} {th : Int32} {f : Nat → Int64} {η : jj_H} (hI : w_I X Y q σ th f η) (p r c k a b : Int32) : w_O w_T mX7_addFlaw mL_addFlaw hh_addFlaw [.int p, .int r, .int c, .int k, .int a, .int b] X Y q η := by
  obtain ⟨α, τ, hx, hm, ht, hq, hf⟩ := hI
  obtain ⟨vs, hb⟩ := hx.b6
  by_cases hj : ∃ p', p = nI p' ∧ p' < σ 12 0 ∧ (jin r (σ 0 p') && jin c (σ 1 p')) = true
  · obtain ⟨p, rfl, hp, hj⟩ := hj
    obtain ⟨h1, h2⟩ := Bool.and_eq_true _ _ ▸ hj
    obtain ⟨r, rfl, hr, -⟩ := jin_of h1
    obtain ⟨c, rfl, hc, -⟩ := jin_of h2
    by_cases h3 : (jin k 5 && decide (0 ≤ a.toInt) && decide (a.toInt < b.toInt)) = true
    · have h4 := h3
      simp only [Bool.and_eq_true, decide_eq_true_eq] at h4
      obtain ⟨⟨h4, h5⟩, h6⟩ := h4
      obtain ⟨k, rfl, hk, -⟩ := jin_of h4
      obtain ⟨a, rfl, ha, e1⟩ := nn_of h5
      obtain ⟨b, rfl, hb2, e2⟩ := nn_of (x := b) (by omega)
      have hab : a < b := by omega
      have hk : k ≤ 4 := by omega
      have h10 := (hx.1.2.1 p hp).1.2.2.2.2
      by_cases hn : σ 2 p = 10
      · exact w_no hx hm ht hq hf (nI_ne 3 (by decide)) (w_addFlaw_x3 _ _ _ _ _ _ hb (f_addFlaw_x3 hx p r c k a b hp hr hc hk hab hb2 hn)) (m_addFlaw_x3 hm hx.1 p r c k a b hp hr hc hk hab hb2 hn) (by decide) (by decide) (by decide) (by decide)
      · exact w_ok (· = nI (σ 2 p + 1)) hx hm ht hq hf i_one (fun _ _ => trivial) (fun g9 => w_addFlaw_ok _ _ _ _ _ _ hb ((f_addFlaw_ok hx p r c k a b hp hr hc hk hab hb2 (by omega)).mono (fun v η' g => g_g (g_r g)) (fun _ h => h)) (g9_of g9)) (fun η' h9 ok9 => (m_addFlaw_ok h9 hx.1 p r c k a b hp hr hc hk hab hb2 (by omega)).mono fun _ _ => m_on) (by decide) (by decide) (by decide) (by decide)
    · exact w_no hx hm ht hq hf (nI_ne 2 (by decide)) (w_addFlaw_x2 _ _ _ _ _ _ hb (f_addFlaw_x2 hx p r c k a b hp hr hc (b_f h3))) (m_addFlaw_x2 hm hx.1 p r c k a b hp hr hc (b_f h3)) (by decide) (by decide) (by decide) (by decide)
  · have hj2 : ∀ p', p = nI p' → p' < σ 12 0 → (jin r (σ 0 p') && jin c (σ 1 p')) = false := fun p' h1 h2 => b_f fun h3 => hj ⟨p', h1, h2, h3⟩
    exact w_no hx hm ht hq hf (nI_ne 1 (by decide)) (w_addFlaw_x1 _ _ _ _ _ _ hb (f_addFlaw_x1 hx p r c k a b hj2)) (m_addFlaw_x1 hm hx.1 p r c k a b hj2) (by decide) (by decide) (by decide) (by decide)
theorem o_print {X Y : Nat → Nat} {q : Nat} {σ : jj_S} {th : Int32} {f : Nat → Int64} {η : jj_H} (hI : w_I X Y q σ th f η) (p w r s : Int32) : w_O w_T mX7_print mL_print hh_print [.int p, .int w, .int r, .int s] X Y q η := by
  obtain ⟨α, τ, hx, hm, ht, hq, hf⟩ := hI
  obtain ⟨vs, hb⟩ := hx.b6
  by_cases hj : (jin p (σ 12 0) && jin w (σ 12 1)) = true
  · obtain ⟨h1, h2⟩ := Bool.and_eq_true _ _ ▸ hj
    obtain ⟨p, rfl, hp, -⟩ := jin_of h1
    obtain ⟨w, rfl, hw, -⟩ := jin_of h2
    by_cases h3 : (jin r 1000 && jin s 10000) = true
    · obtain ⟨h4, h5⟩ := Bool.and_eq_true _ _ ▸ h3
      obtain ⟨r, rfl, hr, -⟩ := jin_of h4
      obtain ⟨s, rfl, hs, -⟩ := jin_of h5
      have h10 := hx.1.1.2.2.1
      by_cases hn : σ 12 2 = 10
      · exact w_no hx hm ht hq hf (nI_ne 3 (by decide)) (w_print_x3 _ _ _ _ hb (f_print_x3 hx p w r s hp hw hr hs hn)) (m_print_x3 hm hx.1 p w r s hp hw hr hs hn) (by decide) (by decide) (by decide) (by decide)
      · exact w_ok (· = nI (σ 12 2)) hx hm ht hq hf i_one (fun _ _ => trivial) (fun g9 => w_print_ok _ _ _ _ hb ((f_print_ok hx p w r s hp hw hr hs (by omega)).mono (fun v η' g => g_g (g_r g)) (fun _ h => h)) (g9_of g9)) (fun η' h9 ok9 => (m_print_ok h9 hx.1 p w r s hp hw hr hs (by omega)).mono fun _ _ => m_on) (by decide) (by decide) (by decide) (by decide)
    · exact w_no hx hm ht hq hf (nI_ne 2 (by decide)) (w_print_x2 _ _ _ _ hb (f_print_x2 hx p w r s hp hw (b_f h3))) (m_print_x2 hm hx.1 p w r s hp hw (b_f h3)) (by decide) (by decide) (by decide) (by decide)
  · exact w_no hx hm ht hq hf (nI_ne 1 (by decide)) (w_print_x1 _ _ _ _ hb (f_print_x1 hx p w r s (b_f hj))) (m_print_x1 hm hx.1 p w r s (b_f hj)) (by decide) (by decide) (by decide) (by decide)
theorem o_setSheet {X Y : Nat → Nat} {q : Nat} {σ : jj_S} {th : Int32} {f : Nat → Int64} {η : jj_H} (hI : w_I X Y q σ th f η) (s r c a d : Int32) : w_O w_T mX7_setSheet mL_setSheet hh_setSheet [.int s, .int r, .int c, .int a, .int d] X Y q η := by
  obtain ⟨α, τ, hx, hm, ht, hq, hf⟩ := hI
  obtain ⟨vs, hb⟩ := hx.b6
  by_cases hj : jin s (σ 12 2) = true
  · obtain ⟨s, rfl, hs, -⟩ := jin_of hj
    by_cases h3 : (jin r 4 && jin c 4 && jga a && jga d) = true
    · have h4 := h3
      simp only [Bool.and_eq_true] at h4
      obtain ⟨⟨⟨h4, h5⟩, h6⟩, h7⟩ := h4
      obtain ⟨r, rfl, hr, -⟩ := jin_of h4
      obtain ⟨c, rfl, hc, -⟩ := jin_of h5
      obtain ⟨a, rfl, ha⟩ := jga_of h6
      obtain ⟨d, rfl, hd⟩ := jga_of h7
      by_cases hn : ∃ k, k < σ 12 3 ∧ σ 7 k = s
      · obtain ⟨k, hk, hk2⟩ := hn
        exact w_no hx hm ht hq hf (nI_ne 3 (by decide)) (w_setSheet_x3 _ _ _ _ _ hb (f_setSheet_x3 hx s r c a d k hs hk hk2 (by omega) (by omega) ha hd)) (m_setSheet_x3 hm hx.1 s r c a d k hs hk hk2 (by omega) (by omega) ha hd) (by decide) (by decide) (by decide) (by decide)
      · have hno : ∀ k, k < σ 12 3 → σ 7 k ≠ s := fun k h1 h2 => hn ⟨k, h1, h2⟩
        exact w_ok (· = nI (σ 0 (σ 6 (8 * s)) * σ 1 (σ 6 (8 * s)))) hx hm ht hq hf i_one (fun _ _ => trivial) (fun g9 => w_setSheet_ok _ _ _ _ _ hb ((f_setSheet_ok hx s r c a d hs hno (by omega) (by omega) ha hd).mono (fun v η' g => g_m (g_r g)) (fun _ h => h)) (g9_of g9)) (fun η' h9 ok9 => (m_setSheet_ok h9 hx.1 s r c a d hs hno (by omega) (by omega) ha hd).mono fun _ _ => m_on) (by decide) (by decide) (by decide) (by decide)
    · exact w_no hx hm ht hq hf (nI_ne 2 (by decide)) (w_setSheet_x2 _ _ _ _ _ hb (f_setSheet_x2 hx s r c a d hs (b_f h3))) (m_setSheet_x2 hm hx.1 s r c a d hs (b_f h3)) (by decide) (by decide) (by decide) (by decide)
  · exact w_no hx hm ht hq hf (nI_ne 1 (by decide)) (w_setSheet_x1 _ _ _ _ _ hb (f_setSheet_x1 hx s r c a d (b_f hj))) (m_setSheet_x1 hm hx.1 s r c a d (b_f hj)) (by decide) (by decide) (by decide) (by decide)
theorem o_tear {X Y : Nat → Nat} {q : Nat} {σ : jj_S} {th : Int32} {f : Nat → Int64} {η : jj_H} (hI : w_I X Y q σ th f η) (s r c : Int32) : w_O w_T mX7_tear mL_tear hh_tear [.int s, .int r, .int c] X Y q η := by
  obtain ⟨α, τ, hx, hm, ht, hq, hf⟩ := hI
  obtain ⟨vs, hb⟩ := hx.b6
  by_cases hj : ∃ s', s = nI s' ∧ s' < σ 12 2 ∧ (jin r (σ 0 (σ 6 (8 * s'))) && jin c (σ 1 (σ 6 (8 * s')))) = true
  · obtain ⟨s, rfl, hs, hj⟩ := hj
    obtain ⟨h1, h2⟩ := Bool.and_eq_true _ _ ▸ hj
    obtain ⟨r, rfl, hr, -⟩ := jin_of h1
    obtain ⟨c, rfl, hc, -⟩ := jin_of h2
    have h10 := hx.1.1.2.2.2
    by_cases hn : (∃ k, k < σ 12 3 ∧ σ 7 k = s ∧ σ 8 k = r ∧ σ 9 k = c) ∨ σ 12 3 = 40
    · exact w_no hx hm ht hq hf (nI_ne 2 (by decide)) (w_tear_x2 _ _ _ hb (f_tear_x2 hx s r c hs hr hc hn)) (m_tear_x2 hm hx.1 s r c hs hr hc hn) (by decide) (by decide) (by decide) (by decide)
    · have hno : ∀ k, k < σ 12 3 → σ 7 k = s → σ 8 k = r → σ 9 k = c → False := fun k h1 h2 h3 h4 => hn (Or.inl ⟨k, h1, h2, h3, h4⟩)
      have h40 : σ 12 3 ≠ 40 := fun z => hn (Or.inr z)
      exact w_ok (· = nI (σ 12 3)) hx hm ht hq hf i_one (fun _ _ => trivial) (fun g9 => w_tear_ok _ _ _ hb ((f_tear_ok hx s r c hs hr hc hno (by omega)).mono (fun v η' g => g_g (g_r g)) (fun _ h => h)) (g9_of g9)) (fun η' h9 ok9 => (m_tear_ok h9 hx.1 s r c hs hr hc hno (by omega)).mono fun _ _ => m_on) (by decide) (by decide) (by decide) (by decide)
  · have hj2 : ∀ s', s = nI s' → s' < σ 12 2 → (jin r (σ 0 (σ 6 (8 * s'))) && jin c (σ 1 (σ 6 (8 * s')))) = false := fun s' h1 h2 => b_f fun h3 => hj ⟨s', h1, h2, h3⟩
    exact w_no hx hm ht hq hf (nI_ne 1 (by decide)) (w_tear_x1 _ _ _ hb (f_tear_x1 hx s r c hj2)) (m_tear_x1 hm hx.1 s r c hj2) (by decide) (by decide) (by decide) (by decide)
theorem o_forge {X Y : Nat → Nat} {q : Nat} {σ : jj_S} {th : Int32} {f : Nat → Int64} {η : jj_H} (hI : w_I X Y q σ th f η) (k d t : Int32) : w_O w_T mX7_forge mL_forge hh_forge [.int k, .int d, .int t] X Y q η := by
  obtain ⟨α, τ, hx, hm, ht, hq, hf⟩ := hI
  obtain ⟨vs, hb⟩ := hx.b6
  by_cases hj : (jin k (σ 12 3) && jin d 4) = true
  · obtain ⟨h1, h2⟩ := Bool.and_eq_true _ _ ▸ hj
    obtain ⟨k, rfl, hk, -⟩ := jin_of h1
    obtain ⟨d, rfl, hd, -⟩ := jin_of h2
    by_cases h3 : jin t (s_all σ k d + 1) = true
    · obtain ⟨t, rfl, ht2, -⟩ := jin_of h3
      by_cases hn : σ 11 k = 0
      · exact w_ok (· = nI (σ 10 (4 * k + d))) hx hm ht hq hf i_one (fun _ _ => trivial) (fun g9 => w_forge_ok _ _ _ hb ((f_forge_ok hx k d t hk hd (by omega) hn).mono (fun v η' g => g_m (g_r g)) (fun _ h => h)) (g9_of g9)) (fun η' h9 ok9 => (m_forge_ok h9 hx.1 k d t hk hd (by omega) hn).mono fun _ _ => m_on) (by decide) (by decide) (by decide) (by decide)
      · exact w_no hx hm ht hq hf (nI_ne 3 (by decide)) (w_forge_x3 _ _ _ hb (f_forge_x3 hx k d t hk hd (by omega) hn)) (m_forge_x3 hm hx.1 k d t hk hd (by omega) hn) (by decide) (by decide) (by decide) (by decide)
    · exact w_no hx hm ht hq hf (nI_ne 2 (by decide)) (w_forge_x2 _ _ _ hb (f_forge_x2 hx k d t hk hd (b_f h3))) (m_forge_x2 hm hx.1 k d t hk hd (b_f h3)) (by decide) (by decide) (by decide) (by decide)
  · exact w_no hx hm ht hq hf (nI_ne 1 (by decide)) (w_forge_x1 _ _ _ hb (f_forge_x1 hx k d t (b_f hj))) (m_forge_x1 hm hx.1 k d t (b_f hj)) (by decide) (by decide) (by decide) (by decide)
theorem o_stamp {X Y : Nat → Nat} {q : Nat} {σ : jj_S} {th : Int32} {f : Nat → Int64} {η : jj_H} (hI : w_I X Y q σ th f η) (k w : Int32) : w_O w_T mX7_stamp mL_stamp hh_stamp [.int k, .int w] X Y q η := by
  obtain ⟨α, τ, hx, hm, ht, hq, hf⟩ := hI
  obtain ⟨vs, hb⟩ := hx.b6
  by_cases hj : (jin k (σ 12 3) && jin w 11) = true
  · obtain ⟨h1, h2⟩ := Bool.and_eq_true _ _ ▸ hj
    obtain ⟨k, rfl, hk, -⟩ := jin_of h1
    obtain ⟨w, rfl, hw, -⟩ := jin_of h2
    exact w_ok (· = s_det σ k w) hx hm ht hq hf i_one (fun _ _ => trivial) (fun g9 => w_stamp_ok _ _ hb ((f_stamp_ok hx k w hk hw).mono (fun v η' g => g_s hx (g_r g)) (fun _ h => h)) (g9_of g9)) (fun η' h9 ok9 => (m_stamp_ok h9 hx.1 k w hk hw).mono fun _ _ => m_on) (by decide) (by decide) (by decide) (by decide)
  · exact w_no hx hm ht hq hf (nI_ne 1 (by decide)) (w_stamp_x1 _ _ hb (f_stamp_x hx k w (b_f hj))) (m_stamp_x hm hx.1 k w (b_f hj)) (by decide) (by decide) (by decide) (by decide)
theorem o_fits {X Y : Nat → Nat} {q : Nat} {σ : jj_S} {th : Int32} {f : Nat → Int64} {η : jj_H} (hI : w_I X Y q σ th f η) (a d b : Int32) : w_O (fun y => ∃ t, y = b01 t) mX7_fits mL_fits hh_fits [.int a, .int d, .int b] X Y q η := by
  obtain ⟨α, τ, hx, hm, ht, hq, hf⟩ := hI
  obtain ⟨vs, hb⟩ := hx.b6
  by_cases hj : (jin a (σ 12 3) && jin b (σ 12 3) && jin d 4) = true
  · have h4 := hj
    simp only [Bool.and_eq_true] at h4
    obtain ⟨⟨h1, h2⟩, h3⟩ := h4
    obtain ⟨a, rfl, ha, -⟩ := jin_of h1
    obtain ⟨b, rfl, hb2, -⟩ := jin_of h2
    obtain ⟨d, rfl, hd, -⟩ := jin_of h3
    by_cases hn : a = b
    · subst hn
      exact w_no hx hm ht hq hf (nI_ne 2 (by decide)) (w_fits_x2 _ _ _ hb (f_fits_x2 hx a d ha hd)) (m_fits_x2 hm hx.1 a d ha hd) (by decide) (by decide) (by decide) (by decide)
    · exact w_ok (· = b01 (s_fit σ a d b)) hx hm ht hq hf i_one (fun y hy => ⟨_, hy⟩) (fun g9 => w_fits_ok _ _ _ hb ((f_fits_ok hx a d b ha hd hb2 hn).mono (fun v η' g => g_s hx (g_r g)) (fun _ h => h)) (fun v η' g => by
        obtain ⟨f, hf⟩ := g9 v η' g
        obtain ⟨⟨r, hr, rfl⟩, _⟩ := g
        exact ⟨_, f, hr, hf⟩)) (fun η' h9 ok9 => (m_fits_ok h9 hx.1 a d b ha hd hb2 hn).mono fun _ _ => m_on) (by decide) (by decide) (by decide) (by decide)
  · exact w_no hx hm ht hq hf (nI_ne 1 (by decide)) (w_fits_x1 _ _ _ hb (f_fits_x1 hx a d b (b_f hj))) (m_fits_x1 hm hx.1 a d b (b_f hj)) (by decide) (by decide) (by decide) (by decide)
theorem o_fitting {X Y : Nat → Nat} {q : Nat} {σ : jj_S} {th : Int32} {f : Nat → Int64} {η : jj_H} (hI : w_I X Y q σ th f η) (k d i : Int32) : w_O w_T mX7_fitting mL_fitting hh_fitting [.int k, .int d, .int i] X Y q η := by
  obtain ⟨α, τ, hx, hm, ht, hq, hf⟩ := hI
  obtain ⟨vs, hb⟩ := hx.b6
  by_cases hj : (jin k (σ 12 3) && jin d 4 && decide (0 ≤ i.toInt)) = true
  · have h4 := hj
    simp only [Bool.and_eq_true, decide_eq_true_eq] at h4
    obtain ⟨⟨h1, h2⟩, h3⟩ := h4
    obtain ⟨k, rfl, hk, -⟩ := jin_of h1
    obtain ⟨d, rfl, hd, -⟩ := jin_of h2
    obtain ⟨i, rfl, hi, -⟩ := nn_of h3
    exact w_ok (· = oI (s_fnd (s_fk σ k d) i 40)) hx hm ht hq hf i_one (fun _ _ => trivial) (fun g9 => w_fitting_ok _ _ _ hb ((f_fitting_ok hx k d i hk hd hi).mono (fun v η' g => g_s hx (g_r g)) (fun _ h => h)) (g9_of g9)) (fun η' h9 ok9 => (m_fitting_ok h9 hx.1 k d i hk hd hi).mono fun _ _ => m_on) (by decide) (by decide) (by decide) (by decide)
  · exact w_no hx hm ht hq hf (nI_ne 1 (by decide)) (w_fitting_x1 _ _ _ hb (f_fitting_x hx k d i (b_f hj))) (m_fitting_x hm hx.1 k d i (b_f hj)) (by decide) (by decide) (by decide) (by decide)
theorem o_origin {X Y : Nat → Nat} {q : Nat} {σ : jj_S} {th : Int32} {f : Nat → Int64} {η : jj_H} (hI : w_I X Y q σ th f η) (k i : Int32) : w_O w_T mX7_origin mL_origin hh_origin [.int k, .int i] X Y q η := by
  obtain ⟨α, τ, hx, hm, ht, hq, hf⟩ := hI
  obtain ⟨vs, hb⟩ := hx.b6
  by_cases hj : (jin k (σ 12 3) && decide (0 ≤ i.toInt)) = true
  · have h4 := hj
    simp only [Bool.and_eq_true, decide_eq_true_eq] at h4
    obtain ⟨h1, h3⟩ := h4
    obtain ⟨k, rfl, hk, -⟩ := jin_of h1
    obtain ⟨i, rfl, hi, -⟩ := nn_of h3
    exact w_ok (fun x => s_iso σ k i x) hx hm ht hq hf (fun x y h1 h2 => s_iso_one h1 h2) (fun _ _ => trivial) (fun g9 => w_origin_ok _ _ hb ((f_origin_ok hx k i hk hi).mono (fun v η' g => g_s hx g) (fun _ h => h)) (g9_of g9)) (fun η' h9 ok9 => m_origin_ok h9 hx.1 k i hk hi) (by decide) (by decide) (by decide) (by decide)
  · exact w_no hx hm ht hq hf (nI_ne 1 (by decide)) (w_origin_x1 _ _ hb (f_origin_x hx k i (b_f hj))) (m_origin_x hm hx.1 k i (b_f hj)) (by decide) (by decide) (by decide) (by decide)
theorem o_mount {X Y : Nat → Nat} {q : Nat} {σ : jj_S} {th : Int32} {f : Nat → Int64} {η : jj_H} (hI : w_I X Y q σ th f η) (k r c : Int32) : w_O w_T mX7_mount mL_mount hh_mount [.int k, .int r, .int c] X Y q η := by
  obtain ⟨α, τ, hx, hm, ht, hq, hf⟩ := hI
  obtain ⟨vs, hb⟩ := hx.b6
  by_cases hj : jin k (σ 12 3) = true
  · obtain ⟨k, rfl, hk, -⟩ := jin_of hj
    by_cases h3 : (jin r 8 && jin c 8) = true
    · obtain ⟨h1, h2⟩ := Bool.and_eq_true _ _ ▸ h3
      obtain ⟨r, rfl, hr, -⟩ := jin_of h1
      obtain ⟨c, rfl, hc, -⟩ := jin_of h2
      by_cases hn : σ 11 k ≠ 0 ∨ s_at σ (8 * r + c) ≠ none ∨ s_bs σ k r c 4 = none
      · exact w_no hx hm ht hq hf (nI_ne 3 (by decide)) (w_mount_x3 _ _ _ hb (f_mount_x3 hx k r c hk hr hc hn)) (m_mount_x3 hm hx.1 k r c hk hr hc hn) (by decide) (by decide) (by decide) (by decide)
      · have n1 : σ 11 k = 0 := Classical.byContradiction fun z => hn (Or.inl z)
        have n2 : s_at σ (8 * r + c) = none := Classical.byContradiction fun z => hn (Or.inr (Or.inl z))
        cases hb3 : s_bs σ k r c 4 with
        | none => exact absurd (Or.inr (Or.inr hb3)) hn
        | some b => exact w_ok (· = nI b) hx hm ht hq hf i_one (fun _ _ => trivial) (fun g9 => w_mount_ok _ _ _ hb ((f_mount_ok hx k r c b hk hr hc n1 n2 hb3).mono (fun v η' g => g_m (g_r g)) (fun _ h => h)) (g9_of g9)) (fun η' h9 ok9 => (m_mount_ok h9 hx.1 k r c b ok9 hk hr hc n1 n2 hb3).mono fun _ _ => m_on) (by decide) (by decide) (by decide) (by decide)
    · exact w_no hx hm ht hq hf (nI_ne 2 (by decide)) (w_mount_x2 _ _ _ hb (f_mount_x2 hx k r c hk (b_f h3))) (m_mount_x2 hm hx.1 k r c hk (b_f h3)) (by decide) (by decide) (by decide) (by decide)
  · exact w_no hx hm ht hq hf (nI_ne 1 (by decide)) (w_mount_x1 _ _ _ hb (f_mount_x1 hx k r c (b_f hj))) (m_mount_x1 hm hx.1 k r c (b_f hj)) (by decide) (by decide) (by decide) (by decide)
theorem o_release {X Y : Nat → Nat} {q : Nat} {σ : jj_S} {th : Int32} {f : Nat → Int64} {η : jj_H} (hI : w_I X Y q σ th f η) (k : Int32) : w_O w_T mX7_release mL_release hh_release [.int k] X Y q η := by
  obtain ⟨α, τ, hx, hm, ht, hq, hf⟩ := hI
  obtain ⟨vs, hb⟩ := hx.b6
  by_cases hj : jin k (σ 12 3) = true
  · obtain ⟨k, rfl, hk, -⟩ := jin_of hj
    by_cases hn : σ 11 k = 0
    · exact w_no hx hm ht hq hf (nI_ne 2 (by decide)) (w_release_x2 _ hb (f_release_x2 hx k hk hn)) (m_release_x2 hm hx.1 k hk hn) (by decide) (by decide) (by decide) (by decide)
    · obtain ⟨p, hp⟩ : ∃ p, σ 11 k = p + 1 := ⟨σ 11 k - 1, by omega⟩
      exact w_ok (· = nI p) hx hm ht hq hf i_one (fun _ _ => trivial) (fun g9 => w_release_ok _ hb ((f_release_ok hx k p hk hp).mono (fun v η' g => g_m (g_r g)) (fun _ h => h)) (g9_of g9)) (fun η' h9 ok9 => (m_release_ok h9 hx.1 k p hk hp).mono fun _ _ => m_on) (by decide) (by decide) (by decide) (by decide)
  · exact w_no hx hm ht hq hf (nI_ne 1 (by decide)) (w_release_x1 _ hb (f_release_x1 hx k (b_f hj))) (m_release_x1 hm hx.1 k (b_f hj)) (by decide) (by decide) (by decide) (by decide)
theorem o_at {X Y : Nat → Nat} {q : Nat} {σ : jj_S} {th : Int32} {f : Nat → Int64} {η : jj_H} (hI : w_I X Y q σ th f η) (r c : Int32) : w_O w_T mX7_at_ mL_at hh_at [.int r, .int c] X Y q η := by
  obtain ⟨α, τ, hx, hm, ht, hq, hf⟩ := hI
  obtain ⟨vs, hb⟩ := hx.b6
  by_cases hj : (jin r 8 && jin c 8) = true
  · obtain ⟨h1, h2⟩ := Bool.and_eq_true _ _ ▸ hj
    obtain ⟨r, rfl, hr, -⟩ := jin_of h1
    obtain ⟨c, rfl, hc, -⟩ := jin_of h2
    exact w_ok (· = oI (s_at σ (8 * r + c))) hx hm ht hq hf i_one (fun _ _ => trivial) (fun g9 => w_at_ok _ _ hb ((f_at_ok hx r c hr hc).mono (fun v η' g => g_s hx (g_r g)) (fun _ h => h)) (g9_of g9)) (fun η' h9 ok9 => (m_at_ok h9 hx.1 r c hr hc).mono fun _ _ => m_on) (by decide) (by decide) (by decide) (by decide)
  · exact w_no hx hm ht hq hf (nI_ne 1 (by decide)) (w_at_x1 _ _ hb (f_at_x X η r c (b_f hj))) (m_at_x hm r c (b_f hj)) (by decide) (by decide) (by decide) (by decide)
theorem o_advise {X Y : Nat → Nat} {q : Nat} {σ : jj_S} {th : Int32} {f : Nat → Int64} {η : jj_H} (hI : w_I X Y q σ th f η) (k : Int32) : w_O w_T mX7_advise mL_advise hh_advise [.int k] X Y q η := by
  obtain ⟨α, τ, hx, hm, ht, hq, hf⟩ := hI
  obtain ⟨vs, hb⟩ := hx.b6
  by_cases hj : jin k (σ 12 3) = true
  · obtain ⟨k, rfl, hk, -⟩ := jin_of hj
    by_cases hn : σ 11 k = 0
    · exact w_ok (· = mI (s_bst σ k 64).2) hx hm ht hq hf i_one (fun _ _ => trivial) (fun g9 => w_advise_ok _ hb ((f_advise_ok hx k hk hn).mono (fun v η' g => g_s hx (g_r g)) (fun _ h => h)) (g9_of g9)) (fun η' h9 ok9 => (m_advise_ok h9 hx.1 k hk hn).mono fun _ _ => m_on) (by decide) (by decide) (by decide) (by decide)
    · exact w_no hx hm ht hq hf (nI_ne 2 (by decide)) (w_advise_x2 _ hb (f_advise_x2 hx k hk hn)) (m_advise_x2 hm hx.1 k hk hn) (by decide) (by decide) (by decide) (by decide)
  · exact w_no hx hm ht hq hf (nI_ne 1 (by decide)) (w_advise_x1 _ hb (f_advise_x1 hx k (b_f hj))) (m_advise_x1 hm hx.1 k (b_f hj)) (by decide) (by decide) (by decide) (by decide)
theorem o_count {X Y : Nat → Nat} {q : Nat} {σ : jj_S} {th : Int32} {f : Nat → Int64} {η : jj_H} (hI : w_I X Y q σ th f η) (w : Int32) : w_O w_T mX7_count mL_count hh_count [.int w] X Y q η := by
  obtain ⟨α, τ, hx, hm, ht, hq, hf⟩ := hI
  obtain ⟨vs, hb⟩ := hx.b6
  by_cases hj : jin w 12 = true
  · obtain ⟨w, rfl, hw, -⟩ := jin_of hj
    exact w_ok (· = s_cnt σ w) hx hm ht hq hf i_one (fun _ _ => trivial) (fun g9 => w_count_ok _ hb ((f_count_ok hx w hw).mono (fun v η' g => g_v hx (g_r g)) (fun _ h => h)) (g9_of g9)) (fun η' h9 ok9 => (m_count_ok h9 hx.1 w hw).mono fun _ _ => m_on) (by decide) (by decide) (by decide) (by decide)
  · exact w_no hx hm ht hq hf (nI_ne 1 (by decide)) (w_count_x1 _ hb (f_count_x X η w (b_f hj))) (m_count_x hm w (b_f hj)) (by decide) (by decide) (by decide) (by decide)
