/-! ONE STEP OF THE LAW: both sides hold the same numbers before and after -/
def w_I (X Y : Nat → Nat) (q : Nat) (σ : jj_S) (th : Int32) (f : Nat → Int64) (η : jj_H) : Prop := ∃ α τ, x_rep X α τ σ η ∧ m_rep Y σ th η ∧ (∀ i, i < 13 → τ (Y i) = 50 + i) ∧ τ q = 70 ∧ η q = some (x_l 1 f)
def w_O (K : Int32 → Prop) (M7 ML : jj_M) (hh : jj_HH) (as : List Value) (X Y : Nat → Nat) (q : Nat) (η : jj_H) : Prop :=
  ∃ c mc ms P, jj_HtH ML hh (.ref (X 0) :: (as ++ [.ref q])) η mc ms P ∧ mc ≤ 4 ∧ ms ≤ 80 ∧ ∀ v η1, P v η1 → v = some (.int c) ∧ (∃ vs, η1 (Y 0) = some (.inr (7, vs))) ∧ ∃ mc2 ms2 P2, jj_Ht M7 (.ref (Y 0) :: as) η1 mc2 ms2 P2 ∧ mc2 ≤ 4 ∧ ms2 ≤ 80 ∧ ∀ v2 η2, P2 v2 η2 → ∃ y σ' f, v2 = some (.int y) ∧ w_I X Y q σ' c f η2 ∧ (c = 0 → f 0 = y.toInt64 ∧ K y)
theorem m_rep.cg {Y : Nat → Nat} {σ : jj_S} {th : Int32} {η η' : jj_H} (h : m_rep Y σ th η) (g : ∀ i, i < 13 → η' (Y i) = η (Y i)) : m_rep Y σ th η' := by
  obtain ⟨d, z, h0, h1, h2, h3, h4, h5, h6, h7, h8, h9, h10, h11, h12⟩ := h
  exact ⟨d, z, (g 0 (by decide)).trans h0, (g 1 (by decide)).trans h1, (g 2 (by decide)).trans h2, (g 3 (by decide)).trans h3, (g 4 (by decide)).trans h4, (g 5 (by decide)).trans h5, (g 6 (by decide)).trans h6, (g 7 (by decide)).trans h7, (g 8 (by decide)).trans h8, (g 9 (by decide)).trans h9, (g 10 (by decide)).trans h10, (g 11 (by decide)).trans h11, (g 12 (by decide)).trans h12⟩
theorem m_rep.st {Y : Nat → Nat} {σ : jj_S} {th : Int32} {η : jj_H} (h : m_rep Y σ th η) (i : Nat) (hi : i < 13) : η (Y i) ≠ none := by
  obtain ⟨d, z, h0, h1, h2, h3, h4, h5, h6, h7, h8, h9, h10, h11, h12⟩ := h
  have q : ∀ {a : Nat} {e : va_E}, η a = some e → η a ≠ none := fun h z => by rw [h] at z; cases z
  match i, hi with
  | 0, _ => exact q h0
  | 1, _ => exact q h1
  | 2, _ => exact q h2
  | 3, _ => exact q h3
  | 4, _ => exact q h4
  | 5, _ => exact q h5
  | 6, _ => exact q h6
  | 7, _ => exact q h7
  | 8, _ => exact q h8
  | 9, _ => exact q h9
  | 10, _ => exact q h10
  | 11, _ => exact q h11
  | 12, _ => exact q h12
/-- what the class's answer leaves -/
def w_G (X : Nat → Nat) (τ : Nat → Nat) (σ' : jj_S) (η : jj_H) (R : Int32 → Prop) (v : Option Value) (η' : jj_H) : Prop := (∃ r, v = some (.int r) ∧ R r) ∧ (∃ α' τ', x_rep X α' τ' σ' η' ∧ ∀ b, η b ≠ none → τ' b = τ b) ∧ x_fr τ η η'
theorem w_ok {K : Int32 → Prop} {X Y : Nat → Nat} {q : Nat} {σ σ' : jj_S} {th : Int32} {f0 : Nat → Int64} {η : jj_H} {M7 ML : jj_M} {hh : jj_HH} {as : List Value} {mc ms mc2 ms2 : Nat} (R : Int32 → Prop) {α : Nat → Nat → Nat} {τ : Nat → Nat}
    (hx : x_rep X α τ σ η) (hm : m_rep Y σ th η) (ht : ∀ i, i < 13 → τ (Y i) = 50 + i) (hq : τ q = 70) (hf : η q = some (x_l 1 f0)) (hR : ∀ x y, R x → R y → x = y) (hK : ∀ y, R y → K y)
    (hW : (∀ v η', w_G X τ σ' η R v η' → ∃ f, η' q = some (x_l 1 f)) → jj_HtH ML hh (.ref (X 0) :: (as ++ [.ref q])) η mc ms (fun v η' => v = some (.int 0) ∧ ∃ r η1 f, w_G X τ σ' η R (some (.int r)) η1 ∧ η1 q = some (x_l 1 f) ∧ η' = jj_up η1 q (x_l 1 (vp_updL f 0 r.toInt64))))
    (hM : ∀ η', m_rep Y σ th η' → s_ok σ' → jj_Ht M7 (.ref (Y 0) :: as) η' mc2 ms2 (fun v η'' => ∃ y, R y ∧ m_P Y η' σ' 0 y v η'')) (b1 : mc ≤ 4) (b2 : ms ≤ 80) (b3 : mc2 ≤ 4) (b4 : ms2 ≤ 80) : w_O K M7 ML hh as X Y q η := by
  have sq : η q ≠ none := fun z => by rw [hf] at z; cases z
  refine ⟨0, mc, ms, _, hW (fun v η' g => ⟨f0, ?_⟩), b1, b2, ?_⟩
  · rw [g.2.2 q sq (by omega) (by omega)]
    exact hf
  · rintro v η1 ⟨rfl, r, η0, f, ⟨⟨r', e1, hr⟩, ⟨α', τ', hx', hτ⟩, hfr⟩, hf1, rfl⟩
    injection e1 with e1
    injection e1 with e1
    subst e1
    have t2 : ∀ i, i < 13 → τ' (Y i) = 50 + i := fun i hi => (hτ _ (hm.st i hi)).trans (ht i hi)
    have q2 : τ' q = 70 := (hτ _ sq).trans hq
    have hYq : ∀ i, i < 13 → Y i ≠ q := fun i hi z => by
      have := t2 i hi
      rw [z, q2] at this
      omega
    have hm0 : m_rep Y σ th η0 := hm.cg fun i hi => hfr _ (hm.st i hi) (by rw [ht i hi]; omega) (by rw [ht i hi]; omega)
    have hm1 : m_rep Y σ th (jj_up η0 q (x_l 1 (vp_updL f 0 r.toInt64))) := hm0.cg fun i hi => up_n (hYq i hi)
    obtain ⟨t3, t4⟩ := hx'.2.1
    have xq : ∀ j, j < 8 → X j ≠ q := fun j hj z => by
      have := t3 j hj
      rw [z, q2] at this
      omega
    have aq : ∀ f i, s_live σ' f i → α' f i ≠ q := fun f i hl z => by
      have := t4 f i hl
      rw [z, q2] at this
      omega
    have hx1 : x_rep X α' τ' σ' (jj_up η0 q (x_l 1 (vp_updL f 0 r.toInt64))) := hx'.cong (fun j hj _ => up_n (xq j hj)) (fun f i hl => up_n (aq f i hl)) (by
      rw [up_n (xq 6 (by decide))]
      exact hx'.2.2.2.2.2.2.2.2.1)
    refine ⟨rfl, ⟨_, hm1.o⟩, mc2, ms2, _, hM _ hm1 hx'.1, b3, b4, ?_⟩
    rintro v2 η2 ⟨y, hy, rfl, hm2, hmf⟩
    have e := hR _ _ hr hy
    subst e
    have st := hx1.stands
    refine ⟨r, σ', vp_updL f 0 r.toInt64, rfl, ⟨α', τ', hx1.cong (fun j hj _ => hmf _ (st.1 j hj) (fun i hi z => ?_)) (fun f i hl => hmf _ (st.2 f i hl) (fun j hj z => ?_)) ?_, hm2, t2, q2, ?_⟩, fun _ => ⟨pk_uLs, hK _ hy⟩⟩
    · have a1 := t3 j hj
      have a2 := t2 i hi
      rw [z, a2] at a1
      omega
    · have a1 := t4 f i hl
      have a2 := t2 j hj
      rw [z, a2] at a1
      omega
    · rw [hmf _ (st.1 6 (by decide)) (fun i hi z => by
        have a1 := t3 6 (by decide)
        have a2 := t2 i hi
        rw [z, a2] at a1
        omega)]
      exact hx1.2.2.2.2.2.2.2.2.1
    · rw [hmf q (by rw [up_s]; exact fun z => by cases z) (fun i hi z => hYq i hi z.symm)]
      exact up_s
theorem w_no {K : Int32 → Prop} {X Y : Nat → Nat} {q : Nat} {σ : jj_S} {th : Int32} {f0 : Nat → Int64} {η : jj_H} {M7 ML : jj_M} {hh : jj_HH} {as : List Value} {mc ms mc2 ms2 : Nat} {c : Int32} {α : Nat → Nat → Nat} {τ : Nat → Nat}
    (hx : x_rep X α τ σ η) (hm : m_rep Y σ th η) (ht : ∀ i, i < 13 → τ (Y i) = 50 + i) (hq : τ q = 70) (hf : η q = some (x_l 1 f0)) (hc : c ≠ 0)
    (hW : jj_HtH ML hh (.ref (X 0) :: (as ++ [.ref q])) η mc ms (fun v η' => v = some (.int c) ∧ η' = η))
    (hM : jj_Ht M7 (.ref (Y 0) :: as) η mc2 ms2 (m_P Y η σ c 0)) (b1 : mc ≤ 4) (b2 : ms ≤ 80) (b3 : mc2 ≤ 4) (b4 : ms2 ≤ 80) : w_O K M7 ML hh as X Y q η := by
  have sq : η q ≠ none := fun z => by rw [hf] at z; cases z
  have hYq : ∀ i, i < 13 → Y i ≠ q := fun i hi z => by
    have := ht i hi
    rw [z, hq] at this
    omega
  obtain ⟨t3, t4⟩ := hx.2.1
  have st := hx.stands
  refine ⟨c, mc, ms, _, hW, b1, b2, ?_⟩
  rintro v η1 ⟨rfl, rfl⟩
  refine ⟨rfl, ⟨_, hm.o⟩, mc2, ms2, _, hM, b3, b4, ?_⟩
  rintro v2 η2 ⟨rfl, hm2, hmf⟩
  refine ⟨0, σ, f0, rfl, ⟨α, τ, hx.cong (fun j hj _ => hmf _ (st.1 j hj) (fun i hi z => ?_)) (fun f i hl => hmf _ (st.2 f i hl) (fun j hj z => ?_)) ?_, hm2, ht, hq, ?_⟩, fun z => absurd z hc⟩
  · have a1 := t3 j hj
    have a2 := ht i hi
    rw [z, a2] at a1
    omega
  · have a1 := t4 f i hl
    have a2 := ht j hj
    rw [z, a2] at a1
    omega
  · rw [hmf _ (st.1 6 (by decide)) (fun i hi z => by
      have a1 := t3 6 (by decide)
      have a2 := ht i hi
      rw [z, a2] at a1
      omega)]
    exact hx.2.2.2.2.2.2.2.2.1
  · rw [hmf q sq (fun i hi z => hYq i hi z.symm)]
    exact hf
theorem x_rep.b6 {X : Nat → Nat} {α : Nat → Nat → Nat} {τ : Nat → Nat} {σ : jj_S} {η : jj_H} (h : x_rep X α τ σ η) : ∃ vs, η (X 0) = some (.inr (6, vs)) := ⟨_, h.2.2.1⟩
theorem g_s {X : Nat → Nat} {α : Nat → Nat → Nat} {τ : Nat → Nat} {σ : jj_S} {η : jj_H} (h : x_rep X α τ σ η) {R : Int32 → Prop} {v : Option Value} {η' : jj_H} (g : (∃ r, v = some (.int r) ∧ R r) ∧ η' = η) : w_G X τ σ η R v η' := by
  obtain ⟨h1, rfl⟩ := g
  exact ⟨h1, ⟨α, τ, h, fun _ _ => rfl⟩, fun _ _ _ _ => rfl⟩
theorem g_v {X : Nat → Nat} {α : Nat → Nat → Nat} {τ : Nat → Nat} {σ : jj_S} {η : jj_H} (h : x_rep X α τ σ η) {R : Int32 → Prop} {v : Option Value} {η' : jj_H} (g : (∃ r, v = some (.int r) ∧ R r) ∧ g_V X η η') : w_G X τ σ η R v η' := by
  obtain ⟨h1, h2⟩ := g
  refine ⟨h1, ⟨α, τ, h.gW h2, fun _ _ => rfl⟩, fun b _ h5 _ => h2.1 b fun z => ?_⟩
  have := h.2.1.1 6 (by decide)
  rw [← z] at this
  omega
theorem g_m {X : Nat → Nat} {α : Nat → Nat → Nat} {τ : Nat → Nat} {σ' : jj_S} {η : jj_H} {R : Int32 → Prop} {v : Option Value} {η' : jj_H} (g : (∃ r, v = some (.int r) ∧ R r) ∧ x_rep X α τ σ' η' ∧ x_fr τ η η') : w_G X τ σ' η R v η' :=
  ⟨g.1, ⟨α, τ, g.2.1, fun _ _ => rfl⟩, g.2.2⟩
theorem i_one {r : Int32} : ∀ x y : Int32, x = r → y = r → x = y := fun _ _ h1 h2 => h1.trans h2.symm
theorem m_on {Y : Nat → Nat} {η : jj_H} {σ' : jj_S} {r : Int32} {v : Option Value} {η' : jj_H} (h : m_P Y η σ' 0 r v η') : ∃ y, y = r ∧ m_P Y η σ' 0 y v η' := ⟨r, rfl, h⟩
theorem nI_ne (n : Nat) (h : 1 ≤ n ∧ n ≤ 3) : nI n ≠ 0 := by
  obtain ⟨h1, h2⟩ := h
  match n, h1, h2 with
  | 1, _, _ => decide
  | 2, _, _ => decide
  | 3, _, _ => decide
theorem nn_of {x : Int32} (h : 0 ≤ x.toInt) : ∃ n, x = nI n ∧ n < 2147483648 ∧ (n : Int) = x.toInt := by
  have h2 := Int32.toInt_lt x
  refine ⟨x.toInt.toNat, ?_, by omega, by omega⟩
  rw [i_eq, iN (by omega)]
  omega
theorem j1_of {x : Int32} {N : Nat} (h : j1 x N = true) : ∃ n, x = nI n ∧ 1 ≤ n ∧ n ≤ N := by
  simp only [j1, Bool.and_eq_true, decide_eq_true_eq] at h
  obtain ⟨n, e, h1, h2⟩ := nn_of (x := x) (by omega)
  exact ⟨n, e, by omega, by omega⟩
theorem jga_of {x : Int32} (h : jga x = true) : ∃ n, x = nI n ∧ 5 ≤ n ∧ n ≤ 16 := by
  simp only [jga, Bool.and_eq_true, decide_eq_true_eq] at h
  obtain ⟨n, e, h1, h2⟩ := nn_of (x := x) (by omega)
  exact ⟨n, e, by omega, by omega⟩
theorem b_f {b : Bool} (h : ¬ b = true) : b = false := by cases b; rfl; exact absurd rfl h
abbrev w_T : Int32 → Prop := fun _ => True
theorem o_addPlate {X Y : Nat → Nat} {q : Nat} {σ : jj_S} {th : Int32} {f : Nat → Int64} {η : jj_H} (hI : w_I X Y q σ th f η) (w k : Int32) : w_O w_T mX7_addPlate mL_addPlate hh_addPlate [.int w, .int k] X Y q η := by
  obtain ⟨α, τ, hx, hm, ht, hq, hf⟩ := hI
  obtain ⟨vs, hb⟩ := hx.b6
  by_cases hj : (j1 w 8 && j1 k 8) = true
  · obtain ⟨h1, h2⟩ := Bool.and_eq_true _ _ ▸ hj
    obtain ⟨w, rfl, hw⟩ := j1_of h1
    obtain ⟨k, rfl, hk⟩ := j1_of h2
    have h6 := hx.1.1.1
    by_cases hn : σ 12 0 = 6
    · exact w_no hx hm ht hq hf (nI_ne 2 (by decide)) (w_addPlate_x2 _ _ hb (f_addPlate_x2 hx w k hw hk hn)) (m_addPlate_x2 hm w k hw hk hn) (by decide) (by decide) (by decide) (by decide)
    · exact w_ok (· = nI (σ 12 0)) hx hm ht hq hf i_one (fun _ _ => trivial) (fun g9 => w_addPlate_ok _ _ hb ((f_addPlate_ok hx w k hw hk (by omega)).mono (fun v η' g => ⟨⟨_, g.1, rfl⟩, g.2⟩) (fun _ h => h)) (fun v η' g => by
        obtain ⟨f, hf⟩ := g9 v η' g
        obtain ⟨⟨r, hr, _⟩, _⟩ := g
        exact ⟨r, f, hr, hf⟩)) (fun η' h9 ok9 => (m_addPlate_ok h9 w k hw hk (by omega)).mono fun _ _ => m_on) (by decide) (by decide) (by decide) (by decide)
  · exact w_no hx hm ht hq hf (nI_ne 1 (by decide)) (w_addPlate_x1 _ _ hb (f_addPlate_x1 X η w k (b_f hj))) (m_addPlate_x1 hm w k (b_f hj)) (by decide) (by decide) (by decide) (by decide)
