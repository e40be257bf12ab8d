/-! THE CHECK: groups -/
def k_R (σ : jj_S) (al : Bool) (a b : Nat) : Bool := k_pp σ al a b 4
def k_V (σ : jj_S) (al : Bool) (k : Nat) : Prop := al = false ∨ σ 11 k ≠ 0
abbrev x_b (n : Nat) (f : Nat → Int32) : va_E := .inl (2, n, .inl f)
theorem bsn_up (sn : Nat → Bool) (o : Nat) : upd (fun x => b01 (sn x)) o (vp_nar .boolean (nI 1)) = fun x => b01 (b_up sn o true x) :=
  upd_fn (by rw [b_up_s]; rfl) (fun j hj => by rw [b_up_n hj])
theorem rw_up (rw : Nat → Nat) (i k : Nat) : upd (fun t => nI (rw t)) i (nI k) = fun t => nI (b_up rw i k t) :=
  upd_fn (by rw [b_up_s]) (fun j hj => by rw [b_up_n hj])
theorem c_mgroups {Y : Nat → Nat} {σ : jj_S} {th : Int32} {η : jj_H} (h : m_rep Y σ th η) (ok : s_ok σ) (al lg : Bool) (x y : Int32) (hx : x = b01 al) (hy : y = b01 lg) (hR : ∀ x y, x < σ 12 3 → y < σ 12 3 → k_R σ al x y = true → k_R σ al y x = true) :
    jj_Ht mX7_groups [.ref (Y 0), .int x, .int y] η 2 80 (fun v η' => v = some (.int (nI (bif lg then mxF (k_R σ al) (k_V σ al) (σ 12 3) (σ 12 3) else ctF (k_R σ al) (k_V σ al) (σ 12 3) (σ 12 3)))) ∧ n_fr η η') := by
  have o40 := ok.1.2.2.2
  subst hx
  subst hy
  refine jj_lp tok_X7_groups zok_X7 py_7 rfl fun J run => ?_
  have inner : ∀ qa qb, qa ≠ qb → η qa = none → η qb = none → ∀ k, k < σ 12 3 → ∀ C M i, (∀ (W : jj_H) (rw : Nat → Nat) (sn : Nat → Bool) (sz : Nat), n_fr η W → W qa = some (x_i 40 (fun t => nI (rw t))) → W qb = some (x_b 40 (fun x => b01 (sn x))) → bfI (k_R σ al) (k_V σ al) (σ 12 3) k (i + 1) 0 rw sn sz →
        J W (0 + 1 + 1) (0 + 40 + 40) 75 [(0, .ref (Y 0)), (1, .int (b01 al)), (2, .int (b01 lg)), (3, .ref qa), (4, .ref qb), (5, .int C), (6, .int M), (7, .int (nI k)), (8, .int (nI sz)), (9, .int (nI (i + 1)))] []) →
      ∀ m o, o + m = σ 12 3 → ∀ (W : jj_H) (rw : Nat → Nat) (sn : Nat → Bool) (sz : Nat), n_fr η W → W qa = some (x_i 40 (fun t => nI (rw t))) → W qb = some (x_b 40 (fun x => b01 (sn x))) → bfI (k_R σ al) (k_V σ al) (σ 12 3) k i o rw sn sz → i < sz →
        J W (0 + 1 + 1) (0 + 40 + 40) 85 [(0, .ref (Y 0)), (1, .int (b01 al)), (2, .int (b01 lg)), (3, .ref qa), (4, .ref qb), (5, .int C), (6, .int M), (7, .int (nI k)), (8, .int (nI sz)), (9, .int (nI i)), (10, .int (nI o))] [] := by
    intro qa qb qab na nb k hk C M i hout m
    induction m with
    | zero =>
      intro o ho W rw sn sz hf ha hb hI hi
      have ho : o = σ 12 3 := ho
      subst ho
      refine run [(75, 10)] 20 ?_
      refine ⟨_, hf.at h.o, fun c1 => ?_, fun c1 => absurd (cb_ge.mpr (Int.le_refl _)) c1⟩
      have hout := hout W rw sn sz hf ha hb (hI.next hi)
      rw [← nI_add i 1] at hout
      exact hout
    | succ m ih =>
      intro o ho W rw sn sz hf ha hb hI hi
      have szn := hI.size
      have hw := (hI.2.1 i hi).1
      have ih := ih (o + 1) (by omega)
      rw [← nI_add o 1] at ih
      refine run [(85, 11)] 60 ?_
      refine ⟨_, hf.at h.o, fun c1 => ?_, fun c1 => ⟨_, _, o, hb, rfl, by omega, fun c2 => ?_, fun c2 => ?_⟩⟩
      · rw [cb_ge, iN (by omega), iN (by omega)] at c1
        omega
      · exact ih W rw sn sz hf ha hb (hI.skip (Or.inl (b01_ne0 c2))) hi
      · have c2 := b01_eq0 (Classical.not_not.mp c2)
        refine ⟨_, _, i, ha, rfl, by omega, _, hf.at h.o, 0, 0, _, c_isPair (h.fr hf) ok (rw i) o al (b01 al) rfl hw (by omega), Nat.le_refl _, Nat.le_refl _, fun v η' hv => ?_⟩
        obtain ⟨rfl, rfl⟩ := hv
        refine ⟨fun c3 => ?_, fun c3 => ?_⟩
        · have hI2 := hI.add hi (by omega) c2 (show k_R σ al (rw i) o = true from b01_ne0 c3)
          have sz2 := hI2.size
          refine ⟨_, _, o, hb, rfl, by omega, _, _, sz, (up_n qab).trans ha, rfl, by omega, ?_⟩
          have ih := ih (jj_up (jj_up η' qb (x_b 40 (upd (fun x => b01 (sn x)) o (vp_nar .boolean (nI 1))))) qa (x_i 40 (upd (fun t => nI (rw t)) sz (nI o)))) (b_up rw sz o) (b_up sn o true) (sz + 1) ((hf.up nb).up na) (by rw [rw_up]; exact up_s) (by rw [bsn_up]; exact (up_n (Ne.symm qab)).trans up_s) hI2 (by omega)
          rw [← nI_add sz 1] at ih
          exact ih
        · exact ih η' rw sn sz hf ha hb (hI.skip (Or.inr (b01_eq0 (Classical.not_not.mp c3)))) hi
  have middle : ∀ qa qb, qa ≠ qb → η qa = none → η qb = none → ∀ k, k < σ 12 3 → fst_ (k_R σ al) (k_V σ al) (σ 12 3) k → (∀ (W : jj_H) (rw : Nat → Nat) (sn : Nat → Bool), n_fr η W → W qa = some (x_i 40 (fun t => nI (rw t))) → W qb = some (x_b 40 (fun x => b01 (sn x))) → (∀ x, x < σ 12 3 → (sn x = true ↔ bO (k_R σ al) (k_V σ al) (σ 12 3) (k + 1) x)) →
        J W (0 + 1 + 1) (0 + 40 + 40) 20 [(0, .ref (Y 0)), (1, .int (b01 al)), (2, .int (b01 lg)), (3, .ref qa), (4, .ref qb), (5, .int (nI (ctF (k_R σ al) (k_V σ al) (σ 12 3) (k + 1)))), (6, .int (nI (mxF (k_R σ al) (k_V σ al) (σ 12 3) (k + 1)))), (7, .int (nI (k + 1)))] []) →
      ∀ m i, i + m = σ 12 3 → ∀ (W : jj_H) (rw : Nat → Nat) (sn : Nat → Bool) (sz : Nat), n_fr η W → W qa = some (x_i 40 (fun t => nI (rw t))) → W qb = some (x_b 40 (fun x => b01 (sn x))) → bfI (k_R σ al) (k_V σ al) (σ 12 3) k i 0 rw sn sz →
        J W (0 + 1 + 1) (0 + 40 + 40) 75 [(0, .ref (Y 0)), (1, .int (b01 al)), (2, .int (b01 lg)), (3, .ref qa), (4, .ref qb), (5, .int (nI (ctF (k_R σ al) (k_V σ al) (σ 12 3) k) + nI 1)), (6, .int (nI (mxF (k_R σ al) (k_V σ al) (σ 12 3) k))), (7, .int (nI k)), (8, .int (nI sz)), (9, .int (nI i))] [] := by
    intro qa qb qab na nb k hk hfst hout m
    have ex : ∀ (i : Nat) (W : jj_H) (rw : Nat → Nat) (sn : Nat → Bool) (sz : Nat), i = sz → n_fr η W → W qa = some (x_i 40 (fun t => nI (rw t))) → W qb = some (x_b 40 (fun x => b01 (sn x))) → bfI (k_R σ al) (k_V σ al) (σ 12 3) k i 0 rw sn sz →
        J W (0 + 1 + 1) (0 + 40 + 40) 75 [(0, .ref (Y 0)), (1, .int (b01 al)), (2, .int (b01 lg)), (3, .ref qa), (4, .ref qb), (5, .int (nI (ctF (k_R σ al) (k_V σ al) (σ 12 3) k) + nI 1)), (6, .int (nI (mxF (k_R σ al) (k_V σ al) (σ 12 3) k))), (7, .int (nI k)), (8, .int (nI sz)), (9, .int (nI i))] [] := by
      intro i W rw sn sz hi hf ha hb hI
      subst hi
      obtain ⟨g1, g2⟩ := hI.fin hR hk hfst
      have hc : cb (fst_ (k_R σ al) (k_V σ al) (σ 12 3) k) = true := cb_iff.mpr hfst
      have hout := hout W rw sn hf ha hb (fun x hx => by
        rw [g1 x hx, bO.s]
        exact ⟨fun z => z.elim Or.inl (fun z => Or.inr ⟨hfst.1, z⟩), fun z => z.elim Or.inl (fun z => Or.inr z.2)⟩)
      have em : mxF (k_R σ al) (k_V σ al) (σ 12 3) (k + 1) = max (mxF (k_R σ al) (k_V σ al) (σ 12 3) k) i := by
        show (bif cb _ then _ else _) = _
        rw [hc, ← g2]
        rfl
      have ml := mxF_le (k_R σ al) (k_V σ al) (σ 12 3) k
      have il := cs_le (k_R σ al) (σ 12 3) k
      rw [← g2] at il
      rw [ctF_s, hc, if_pos rfl, em, ← i_max (by omega) (by omega), ← nI_add k 1, ← nI_add _ 1] at hout
      refine run [(20, 8)] 40 ?_
      refine ⟨fun c1 => ⟨by decide, by decide, hout⟩, fun c1 => absurd (cb_ge.mpr (Int.le_refl _)) c1⟩
    induction m with
    | zero =>
      intro i hi W rw sn sz hf ha hb hI
      have szn := hI.size
      exact ex i W rw sn sz (by have := hI.1; omega) hf ha hb hI
    | succ m ih =>
      intro i hi W rw sn sz hf ha hb hI
      have szn := hI.size
      rcases Nat.lt_or_ge i sz with z | z
      · refine run [(85, 11)] 20 ?_
        refine ⟨fun c1 => ?_, fun c1 => ?_⟩
        · rw [cb_ge, iN (by omega), iN (by omega)] at c1
          omega
        · exact inner qa qb qab na nb k hk _ _ i (fun W rw sn sz hf ha hb hI => ih (i + 1) (by omega) W rw sn sz hf ha hb hI) (σ 12 3) 0 (by omega) W rw sn sz hf ha hb hI z
      · exact ex i W rw sn sz (by have := hI.1; omega) hf ha hb hI
  have loop : ∀ qa qb, qa ≠ qb → η qa = none → η qb = none → ∀ m k, k + m = σ 12 3 → ∀ (W : jj_H) (rw : Nat → Nat) (sn : Nat → Bool), n_fr η W → W qa = some (x_i 40 (fun t => nI (rw t))) → W qb = some (x_b 40 (fun x => b01 (sn x))) → (∀ x, x < σ 12 3 → (sn x = true ↔ bO (k_R σ al) (k_V σ al) (σ 12 3) k x)) →
        J W (0 + 1 + 1) (0 + 40 + 40) 20 [(0, .ref (Y 0)), (1, .int (b01 al)), (2, .int (b01 lg)), (3, .ref qa), (4, .ref qb), (5, .int (nI (ctF (k_R σ al) (k_V σ al) (σ 12 3) k))), (6, .int (nI (mxF (k_R σ al) (k_V σ al) (σ 12 3) k))), (7, .int (nI k))] [] := by
    intro qa qb qab na nb m
    induction m with
    | zero =>
      intro k hk W rw sn hf ha hb hs
      have hk : k = σ 12 3 := hk
      subst hk
      refine run [] 20 ?_
      refine ⟨_, hf.at h.o, fun c1 => ⟨fun c2 => ?_, fun c2 => ?_⟩, fun c1 => absurd (cb_ge.mpr (Int.le_refl _)) c1⟩
      · exact ⟨trivial, ⟨by rw [b01_eq0 c2]; rfl, hf⟩, by decide, by decide⟩
      · exact ⟨trivial, ⟨by rw [b01_ne0 c2]; rfl, hf⟩, by decide, by decide⟩
    | succ m ih =>
      intro k hk W rw sn hf ha hb hs
      have ih := ih (k + 1) (by omega)
      have hkn : k < σ 12 3 := by omega
      have h64 := (ok.2.2.2.2.1 k hkn).2.2.2.1
      have h12 : W (Y 12) = _ := hf.at h.2.2.2.2.2.2.2.2.2.2.2.2.2.2
      have sk : ¬ fst_ (k_R σ al) (k_V σ al) (σ 12 3) k → J W (0 + 1 + 1) (0 + 40 + 40) 20 [(0, .ref (Y 0)), (1, .int (b01 al)), (2, .int (b01 lg)), (3, .ref qa), (4, .ref qb), (5, .int (nI (ctF (k_R σ al) (k_V σ al) (σ 12 3) k))), (6, .int (nI (mxF (k_R σ al) (k_V σ al) (σ 12 3) k))), (7, .int (nI k + nI 1))] [] := by
        intro nf
        have hc : cb (fst_ (k_R σ al) (k_V σ al) (σ 12 3) k) = false := cb_f.mpr nf
        have ih := ih W rw sn hf ha hb (fun x hx => by
          rw [hs x hx, bO.s]
          refine ⟨Or.inl, fun z => z.elim id (fun ⟨z1, z2⟩ => ?_)⟩
          by_cases y : bO (k_R σ al) (k_V σ al) (σ 12 3) k k
          · obtain ⟨j, j1, j2, j3⟩ := y
            exact ⟨j, j1, j2, j3.tr z2⟩
          · exact absurd (fst_iff.mpr ⟨z1, y⟩) nf)
        rw [ctF_s, hc, if_neg (by decide), Nat.add_zero, show mxF (k_R σ al) (k_V σ al) (σ 12 3) (k + 1) = mxF (k_R σ al) (k_V σ al) (σ 12 3) k by
          show (bif cb _ then _ else _) = _
          rw [hc]
          rfl, ← nI_add k 1] at ih
        exact ih
      refine run [(20, 8), (75, 10)] 80 ?_
      refine ⟨_, hf.at h.o, fun c1 => ?_, fun c1 => ⟨_, _, k, hb, rfl, by omega, fun c2 => ?_, fun c2 => ?_⟩⟩
      · rw [cb_ge, iN (by omega), iN (by omega)] at c1
        omega
      · exact sk (fun z => (fst_iff.mp z).2 ((hs k hkn).mp (b01_ne0 c2)))
      have c2 := b01_eq0 (Classical.not_not.mp c2)
      have go : k_V σ al k → J (jj_up (jj_up W qa (x_i 40 (upd (fun t => nI (rw t)) 0 (nI k)))) qb (x_b 40 (upd (fun x => b01 (sn x)) k (vp_nar .boolean (nI 1))))) (0 + 1 + 1) (0 + 40 + 40) 75 [(0, .ref (Y 0)), (1, .int (b01 al)), (2, .int (b01 lg)), (3, .ref qa), (4, .ref qb), (5, .int (nI (ctF (k_R σ al) (k_V σ al) (σ 12 3) k) + nI 1)), (6, .int (nI (mxF (k_R σ al) (k_V σ al) (σ 12 3) k))), (7, .int (nI k)), (8, .int (nI 1)), (9, .int 0)] [] := by
        intro hV
        have hfst : fst_ (k_R σ al) (k_V σ al) (σ 12 3) k := fst_iff.mpr ⟨hV, fun z => by rw [(hs k hkn).mpr z] at c2; cases c2⟩
        exact middle qa qb qab na nb k hkn hfst ih (σ 12 3) 0 (by omega) _ (b_up rw 0 k) (b_up sn k true) 1 ((hf.up na).up nb) ((up_n qab).trans (up_s.trans (by rw [rw_up]))) (up_s.trans (by rw [bsn_up])) (bfI.init hkn hs)
      cases al with
      | false =>
        refine ⟨fun c3 => ?_, fun c3 => absurd rfl c3⟩
        exact ⟨_, _, 0, ha, nI_0.symm, by decide, _, _, k, (up_n (Ne.symm qab)).trans hb, rfl, by omega, go (Or.inl rfl)⟩
      | true =>
        refine ⟨fun c3 => absurd c3 (by show ¬ (_ = _); decide), fun c3 => ⟨_, hf.at h.o, _, _, k, h12, rfl, by omega, fun c4 => ?_, fun c4 => ?_⟩⟩
        · rw [cb_ne, mI_m1t h64] at c4
          exact ⟨_, _, 0, ha, nI_0.symm, by decide, _, _, k, (up_n (Ne.symm qab)).trans hb, rfl, by omega, go (Or.inr c4)⟩
        · rw [cb_ne, mI_m1t h64, Classical.not_not] at c4
          exact sk (fun z => z.1.elim (fun e => by cases e) (fun e => e c4))
  refine run [(20, 8)] 40 ?_
  refine ⟨40, rfl, by decide, by decide, by decide, fun qa na => ⟨40, rfl, by decide, by decide, by decide, fun qb nb => ?_⟩⟩
  obtain ⟨nab, nb⟩ := up_none nb
  exact loop qa qb (Ne.symm nab) na nb (σ 12 3) 0 (by omega) _ (fun _ => 0) (fun _ => false) ((n_fr.up1 na).up nb) ((up_n (Ne.symm nab)).trans up_s) up_s (fun x hx => ⟨fun z => absurd z (by decide), fun ⟨j, j1, _⟩ => absurd j1 (Nat.not_lt_zero _)⟩)
