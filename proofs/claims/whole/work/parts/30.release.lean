/-! THE FACE: MOUNTING AND RELEASING -/
/-- the things of the check are as they were -/
def x_fr (τ : Nat → Nat) (η η' : jj_H) : Prop := ∀ b, η b ≠ none → 50 ≤ τ b → τ b < 1000 → η' b = η b
theorem va_up_s {α : Type} {f : Nat → α} {k : Nat} {v : α} : va_up f k v k = v := if_pos rfl
theorem va_up_n {α : Type} {f : Nat → α} {k j : Nat} {v : α} (h : j ≠ k) : va_up f k v j = f j := if_neg h
theorem x_r_inj {t n : Nat} {f g : Nat → Option Nat} (h : some (x_r t n f) = some (x_r t n g)) : f = g := by
  injection h with h
  injection h with h
  injection h with _ h
  injection h with _ h
  injection h with h
  injection h with h
  injection h with h
  injection h
theorem x_rep.mfr {X : Nat → Nat} {α : Nat → Nat → Nat} {τ : Nat → Nat} {σ : jj_S} {η η' : jj_H} (h : x_rep X α τ σ η) {k : Nat} (hk : k < σ 12 3) (g : ∀ b, b ≠ X 7 → b ≠ α 6 k → η' b = η b) : x_fr τ η η' := by
  obtain ⟨t1, t2⟩ := h.2.1
  intro b _ b1 b2
  refine g b (fun z => ?_) (fun z => ?_)
  · have := t1 7 (by decide)
    rw [← z] at this
    omega
  · have := t2 6 k hk
    rw [← z] at this
    omega
theorem f_release_ok {X : Nat → Nat} {α : Nat → Nat → Nat} {τ : Nat → Nat} {σ : jj_S} {η : jj_H} (h : x_rep X α τ σ η) (k q : Nat) (hk : k < σ 12 3) (hm : σ 11 k = q + 1) : jj_HX mX6_release [.ref (X 0), .int (nI k)] η 0 0 (fun v η' => v = some (.int (nI q)) ∧ x_rep X α τ (s_up σ 11 k 0) η' ∧ x_fr τ η η') (fun _ => False) := by
  have h0 := h.2.2.1
  obtain ⟨k1, -⟩ := h.kk hk
  obtain ⟨-, f, a2, a3⟩ := h.2.2.2.2.2.2.2.1
  have hq : σ 11 k ≤ 64 := (h.1.k hk).2.2.2.2.2
  have hinj := h.1.2.2.2.2.2.1
  refine jj_gx tok_X6_release zok_X6 py_6 rfl 40 fun J => ?_
  refine ⟨_, h0, 0, 0, _, c_stampN_some h k hk, Nat.le_refl _, Nat.le_refl _, fun v η' hv => ?_⟩
  obtain ⟨rfl, rfl⟩ := hv
  refine ⟨_, k1, 0, 0, _, c_isMounted η' _ _ _ _ _ _ _ _ _ k1 hq, Nat.le_refl _, Nat.le_refl _, fun v η'' hv => ?_⟩
  obtain ⟨rfl, rfl⟩ := hv
  refine ⟨fun c1 => ⟨_, k1, _, h0, _, h.album.1, 0, 0, _, c_take h k q hk hm, Nat.le_refl _, Nat.le_refl _, fun v η2 hv => ?_⟩, fun c1 => ?_⟩
  · obtain ⟨rfl, ⟨f', b1, b2⟩, b3, b4⟩ := hv
    have e : f' = f := x_r_inj (b1.symm.trans a2)
    subst e
    refine ⟨trivial, ⟨?_, h.mnt hk (Nat.zero_le _) (fun z => absurd rfl z) b4 b3 ⟨_, b2, fun p hp => ⟨fun j hj e => ?_, fun e => ?_⟩⟩, h.mfr hk b4⟩, Nat.zero_le _, Nat.zero_le _⟩
    · rw [hm, mI_s]
    · by_cases z : j = k
      · rw [z, s_up_s] at e
        omega
      · rw [s_up_n _ _ _ z] at e
        by_cases y : p = q
        · exact absurd (hinj j k hj hk (by omega) (by omega)) z
        · rw [va_up_n y]
          exact (a3 p hp).1 j hj e
    · by_cases y : p = q
      · rw [y, va_up_s]
      · rw [va_up_n y]
        refine (a3 p hp).2 fun j hj => ?_
        by_cases z : j = k
        · rw [z]
          omega
        · have := e j hj
          rw [s_up_n _ _ _ z] at this
          exact this
  · have c1 := b01_eq0 (Classical.not_not.mp c1)
    simp at c1
    omega
theorem f_release_x1 {X : Nat → Nat} {α : Nat → Nat → Nat} {τ : Nat → Nat} {σ : jj_S} {η : jj_H} (h : x_rep X α τ σ η) (k : Int32) (hk : jin k (σ 12 3) = false) : jj_HX mX6_release [.ref (X 0), .int k] η 1 6 (fun _ _ => False) (fun E => E = eI) := by
  have h0 := h.2.2.1
  refine jj_gx tok_X6_release zok_X6 py_6 rfl 40 fun J => ?_
  refine ⟨_, h0, 0, 0, _, c_stampN_none h k hk, Nat.zero_le _, Nat.zero_le _, fun v η' hv => ?_⟩
  obtain ⟨rfl, rfl⟩ := hv
  exact ⟨⟨rfl, rfl⟩, Nat.le_refl _, Nat.le_refl _⟩
theorem f_release_x2 {X : Nat → Nat} {α : Nat → Nat → Nat} {τ : Nat → Nat} {σ : jj_S} {η : jj_H} (h : x_rep X α τ σ η) (k : Nat) (hk : k < σ 12 3) (hm : σ 11 k = 0) : jj_HX mX6_release [.ref (X 0), .int (nI k)] η 1 6 (fun _ _ => False) (fun E => E = eS) := by
  have h0 := h.2.2.1
  obtain ⟨k1, -⟩ := h.kk hk
  refine jj_gx tok_X6_release zok_X6 py_6 rfl 40 fun J => ?_
  refine ⟨_, h0, 0, 0, _, c_stampN_some h k hk, Nat.zero_le _, Nat.zero_le _, fun v η' hv => ?_⟩
  obtain ⟨rfl, rfl⟩ := hv
  refine ⟨_, k1, 0, 0, _, c_isMounted η' _ _ _ _ _ _ _ _ _ k1 (h.1.k hk).2.2.2.2.2, Nat.zero_le _, Nat.zero_le _, fun v η'' hv => ?_⟩
  obtain ⟨rfl, rfl⟩ := hv
  refine ⟨fun c1 => ?_, fun c1 => ⟨⟨rfl, rfl⟩, Nat.le_refl _, Nat.le_refl _⟩⟩
  have c1 := b01_ne0 c1
  simp [hm] at c1
theorem c_placeX (η : jj_H) (r c : Nat) : jj_Ht mX6_placeAt [.int (nI r), .int (nI c)] η 0 0 (fun v η' => v = some (.int (nI (8 * r + c))) ∧ η' = η) := by
  refine (c_placeAt η _ _).mono fun v η' hv => ⟨hv.1.trans ?_, hv.2⟩
  rw [pl8]
theorem f_mount_ok {X : Nat → Nat} {α : Nat → Nat → Nat} {τ : Nat → Nat} {σ : jj_S} {η : jj_H} (h : x_rep X α τ σ η) (k r c b : Nat) (hk : k < σ 12 3) (hr : r < 8) (hc : c < 8) (hm : σ 11 k = 0) (hn : s_at σ (8 * r + c) = none) (hb : s_bs σ k r c 4 = some b) : jj_HX mX6_mount [.ref (X 0), .int (nI k), .int (nI r), .int (nI c)] η 0 0 (fun v η' => v = some (.int (nI b)) ∧ x_rep X α τ (s_up σ 11 k (8 * r + c + 1)) η' ∧ x_fr τ η η') (fun _ => False) := by
  have h0 := h.2.2.1
  obtain ⟨k1, -⟩ := h.kk hk
  obtain ⟨-, f, a2, a3⟩ := h.2.2.2.2.2.2.2.1
  have hq : σ 11 k ≤ 64 := (h.1.k hk).2.2.2.2.2
  have hb4 := s_bs_le hb
  have hn := s_at_none hn
  have hj : (jin (nI r) 8 && jin (nI c) 8) = true := by rw [jin_nI (by omega), jin_nI (by omega)]; simp [hr, hc]
  refine jj_gx tok_X6_mount zok_X6 py_6 rfl 80 fun J => ?_
  refine ⟨_, h0, 0, 0, _, c_stampN_some h k hk, Nat.le_refl _, Nat.le_refl _, fun v η' hv => ?_⟩
  obtain ⟨rfl, rfl⟩ := hv
  refine ⟨0, 0, _, c_hasPlace0 η' _ _, Nat.le_refl _, Nat.le_refl _, fun v η'' hv => ?_⟩
  obtain ⟨rfl, rfl⟩ := hv
  refine ⟨fun c1 => ⟨_, k1, 0, 0, _, c_isMounted η'' _ _ _ _ _ _ _ _ _ k1 hq, Nat.le_refl _, Nat.le_refl _, fun v η' hv => ?_⟩, fun c1 => ?_⟩
  · obtain ⟨rfl, rfl⟩ := hv
    refine ⟨fun c2 => ?_, fun c2 => ⟨_, h0, _, h.album.1, 0, 0, _, c_stampOn h r c _ _ hr hc rfl rfl, Nat.le_refl _, Nat.le_refl _, fun v η'' hv => ?_⟩⟩
    · have c2 := b01_ne0 c2
      simp [hm] at c2
    obtain ⟨rfl, rfl⟩ := hv
    cases hs : s_at σ (8 * r + c) with
    | some j => exact absurd (s_at_some hs).2 (hn j (s_at_some hs).1)
    | none =>
      refine ⟨_, h0, _, h.album.1, 0, 0, _, c_fittingBeside h k r c hk hr hc, Nat.le_refl _, Nat.le_refl _, fun v η' hv => ?_⟩
      obtain ⟨rfl, rfl⟩ := hv
      rw [hb]
      refine ⟨fun c3 => ⟨_, h0, 0, 0, _, c_placeX η' r c, Nat.le_refl _, Nat.le_refl _, fun v η'' hv => ?_⟩, fun c3 => ?_⟩
      · obtain ⟨rfl, rfl⟩ := hv
        refine ⟨_, h.album.1, 0, 0, _, c_put h k (8 * r + c) hk (by omega), Nat.le_refl _, Nat.le_refl _, fun v η2 hv => ?_⟩
        obtain ⟨rfl, ⟨f', b1, b2⟩, b3, b4⟩ := hv
        have e : f' = f := x_r_inj (b1.symm.trans a2)
        subst e
        rw [← mI_s] at b3
        refine ⟨trivial, ⟨rfl, h.mnt hk (by omega) (fun _ j hj _ => hn j hj) b4 b3 ⟨_, b2, fun p hp => ⟨fun j hj e => ?_, fun e => ?_⟩⟩, h.mfr hk b4⟩, Nat.zero_le _, Nat.zero_le _⟩
        · by_cases z : j = k
          · rw [z, s_up_s] at e
            rw [show p = 8 * r + c by omega, va_up_s, z]
          · rw [s_up_n _ _ _ z] at e
            have y : p ≠ 8 * r + c := fun y => hn j hj (by omega)
            rw [va_up_n y]
            exact (a3 p hp).1 j hj e
        · have y : p ≠ 8 * r + c := fun y => e k hk (by rw [s_up_s, y])
          rw [va_up_n y]
          refine (a3 p hp).2 fun j hj => ?_
          by_cases z : j = k
          · rw [z]
            omega
          · have := e j hj
            rw [s_up_n _ _ _ z] at this
            exact this
      · have c3 := Classical.not_not.mp c3
        have c3 : (oI (some b)) = -1 := c3
        have ot : (oI (some b)).toInt = b := iN (by omega)
        rw [i_eq, ot, im1] at c3
        omega
  · have c1 := b01_eq0 (Classical.not_not.mp c1)
    rw [hj] at c1
    cases c1
