/-! THE LAW's LAST CASES, ITS SWITCH, ITS LOOP (written by wip/whole/gen89.py) -/
theorem w_I.mf {X Y : Nat → Nat} {q : Nat} {σ : jj_S} {th t' : Int32} {f : Nat → Int64} {η η2 : jj_H} (hI : w_I X Y q σ th f η) (hm2 : m_rep Y σ t' η2) (hmf : m_fr Y η η2) : w_I X Y q σ t' f η2 := by
  obtain ⟨α, τ, hx, hm, ht, hq, hf⟩ := hI
  have sq : η q ≠ none := fun z => by rw [hf] at z; cases z
  have hYq : ∀ i, i < 13 → Y i ≠ q := fun i hi z => by
    have := ht i hi
    rw [z, hq] at this
    omega
  obtain ⟨t3, t4⟩ := hx.2.1
  have st := hx.stands
  refine ⟨α, τ, hx.cong (fun j hj _ => hmf _ (st.1 j hj) (fun i hi z => ?_)) (fun f i hl => hmf _ (st.2 f i hl) (fun j hj z => ?_)) ?_, hm2, ht, hq, ?_⟩
  · have a1 := t3 j hj
    have a2 := ht i hi
    rw [z, a2] at a1
    omega
  · have a1 := t4 f i hl
    have a2 := ht j hj
    rw [z, a2] at a1
    omega
  · rw [hmf _ (st.1 6 (by decide)) (fun i hi z => by
      have a1 := t3 6 (by decide)
      have a2 := ht i hi
      rw [z, a2] at a1
      omega)]
    exact hx.2.2.2.2.2.2.2.2.1
  · rw [hmf q sq (fun i hi z => hYq i hi z.symm)]
    exact hf
theorem w_I.gv {X Y : Nat → Nat} {q : Nat} {σ : jj_S} {th : Int32} {f : Nat → Int64} {η η2 : jj_H} (hI : w_I X Y q σ th f η) (hg : g_V X η η2) : w_I X Y q σ th f η2 := by
  obtain ⟨α, τ, hx, hm, ht, hq, hf⟩ := hI
  have t6 := hx.2.1.1 6 (by decide)
  have g : ∀ b, 50 ≤ τ b → η2 b = η b := fun b hb => hg.1 b fun z => by
    rw [z, t6] at hb
    omega
  exact ⟨α, τ, hx.gW hg, hm.cg fun i hi => g _ (by rw [ht i hi]; omega), ht, hq, (g q (by omega)).trans hf⟩
theorem w_sub {L : Nat} (hL : L ≤ 3584) : (Int32.ofNat L - nI 7).toInt = (L : Int) - 7 := by
  have e1 : (Int32.ofNat L).toInt = (L : Int) := iN (n := L) (by omega)
  have e7 : (nI 7).toInt = 7 := rfl
  rw [Int32.toInt_sub, e1, e7]
  exact Int.bmod_eq_of_le (by omega) (by omega)
theorem dL_26 : decode (jj_code mL_law) 26 = .ok (.arraylength, 1) := by decide +kernel
theorem dL_36 : decode (jj_code mL_law) 36 = .ok (.iaload, 1) := by decide +kernel
theorem L_reunited {RC RS b L : Nat} {xs : Nat → Int32} {J : jj_K} {X Y : Nat → Nat} {q C S j k n : Nat} {σ : jj_S} {th : Int32} {f : Nat → Int64} {η : jj_H} (hJ : lw_J RC RS b L xs J) (hL : L ≤ 3584) (hj : 7 * j + 7 ≤ L) (hN : lw_H b L X Y q C S J 1412 j) (hI : w_I X Y q σ th f η) (hk : k + 464 ≤ C) (hn : n + 4040 ≤ S) (hC : C ≤ RC) (hS : S ≤ RS) : J η k n 1357 [(0, .ref b), (1, .ref (X 0)), (2, .ref (Y 0)), (3, .ref q), (4, .int (nI (7 * j)))] [] := by
  obtain ⟨run, sd, -, sc, -, -⟩ := hJ
  obtain ⟨α, τ, hx, hm, ht, hq, hf⟩ := id hI
  refine run [(1412, 5)] 40 ?_
  refine ⟨_, hx.2.2.1, 0, 0, _, f_reunited hx, by omega, by omega, fun v η1 hv => ?_⟩
  obtain ⟨rfl, rfl⟩ := hv
  refine ⟨_, hm.o, 0, 0, _, m_reunited hm hx.1, by omega, by omega, fun v η2 hv => ?_⟩
  obtain ⟨rfl, hm2, hmf⟩ := hv
  have hI2 := hI.mf hm2 hmf
  refine ⟨fun c1 => hN _ _ _ _ _ _ hI2 (by omega) (by omega), fun c1 => ⟨fun c2 => absurd c2 c1, fun c2 => ⟨fun c3 => hN _ _ _ _ _ _ hI2 (by omega) (by omega), fun c3 => absurd c1 c3⟩⟩⟩
theorem L_digest {RC RS b L : Nat} {xs : Nat → Int32} {J : jj_K} {X Y : Nat → Nat} {q C S j k n : Nat} {σ : jj_S} {th : Int32} {f : Nat → Int64} {η : jj_H} (hJ : lw_J RC RS b L xs J) (hL : L ≤ 3584) (hj : 7 * j + 7 ≤ L) (hN : lw_H b L X Y q C S J 1412 j) (hI : w_I X Y q σ th f η) (hk : k + 464 ≤ C) (hn : n + 4040 ≤ S) (hC : C ≤ RC) (hS : S ≤ RS) : J η k n 1398 [(0, .ref b), (1, .ref (X 0)), (2, .ref (Y 0)), (3, .ref q), (4, .int (nI (7 * j)))] [] := by
  obtain ⟨run, sd, -, sc, -, -⟩ := hJ
  obtain ⟨α, τ, hx, hm, ht, hq, hf⟩ := id hI
  refine run [(1412, 5)] 40 ?_
  refine ⟨_, hx.2.2.1, 0, 0, _, f_digest hx, by omega, by omega, fun v η1 hv => ?_⟩
  obtain ⟨rfl, hg⟩ := hv
  have hI1 := hI.gv hg
  obtain ⟨α1, τ1, hx1, hm1, ht1, hq1, hf1⟩ := id hI1
  refine ⟨_, hm1.o, 464, 4040, _, m_digest hm1 hx1.1, by omega, by omega, fun v η2 hv => ?_⟩
  obtain ⟨rfl, hm2, hmf⟩ := hv
  have hI2 := hI1.mf hm2 hmf
  exact ⟨fun c1 => hN _ _ _ _ _ _ hI2 (by omega) (by omega), fun c1 => absurd (lg_same _) c1⟩
theorem L_body {RC RS b L : Nat} {xs : Nat → Int32} {J : jj_K} {X Y : Nat → Nat} {q C S j k n : Nat} {σ : jj_S} {th : Int32} {f : Nat → Int64} {η : jj_H} (hJ : lw_J RC RS b L xs J) (hL : L ≤ 3584) (hj : 7 * j + 7 ≤ L) (hN : lw_H b L X Y q C S J 1412 j) (hI : w_I X Y q σ th f η) (hk : k + 464 ≤ C) (hn : n + 4040 ≤ S) (hC : C ≤ RC) (hS : S ≤ RS) : J η k n 33 [(0, .ref b), (1, .ref (X 0)), (2, .ref (Y 0)), (3, .ref q), (4, .int (nI (7 * j)))] [] := by
  obtain ⟨run, sd, -, sc, -, -⟩ := id hJ
  refine run [] 4 ?_
  refine sd dL_36 (w_in0 hL (by omega)) ?_
  refine run [(128, 5), (196, 5), (314, 5), (382, 5), (474, 5), (578, 5), (658, 5), (738, 5), (806, 5), (893, 5), (973, 5), (1041, 5), (1121, 5), (1177, 5), (1245, 5), (1301, 5), (1357, 5), (1398, 5), (1412, 5)] 4 ?_
  by_cases h0 : 0 ≤ ((xs (nI (7 * j)).toNatClampNeg) &&& nI 31).toInt ∧ ((xs (nI (7 * j)).toNatClampNeg) &&& nI 31).toInt ≤ 17
  · obtain ⟨i, hi⟩ : ∃ i : Nat, ((xs (nI (7 * j)).toNatClampNeg) &&& nI 31).toInt = (i : Int) := ⟨_, (Int.toNat_of_nonneg h0.1).symm⟩
    have hi18 : i < 18 := by omega
    match i, hi18 with
    | 0, _ => exact Or.inl ⟨0, 88, 128, by omega, by omega, rfl, rfl, L_addPlate (J := J) hJ hL hj hN hI (by omega) (by omega) hC hS⟩
    | 1, _ => exact Or.inl ⟨1, 156, 196, by omega, by omega, rfl, rfl, L_addFlaw (J := J) hJ hL hj hN hI (by omega) (by omega) hC hS⟩
    | 2, _ => exact Or.inl ⟨2, 274, 314, by omega, by omega, rfl, rfl, L_addPaper (J := J) hJ hL hj hN hI (by omega) (by omega) hC hS⟩
    | 3, _ => exact Or.inl ⟨3, 342, 382, by omega, by omega, rfl, rfl, L_print (J := J) hJ hL hj hN hI (by omega) (by omega) hC hS⟩
    | 4, _ => exact Or.inl ⟨4, 434, 474, by omega, by omega, rfl, rfl, L_setSheet (J := J) hJ hL hj hN hI (by omega) (by omega) hC hS⟩
    | 5, _ => exact Or.inl ⟨5, 538, 578, by omega, by omega, rfl, rfl, L_tear (J := J) hJ hL hj hN hI (by omega) (by omega) hC hS⟩
    | 6, _ => exact Or.inl ⟨6, 618, 658, by omega, by omega, rfl, rfl, L_forge (J := J) hJ hL hj hN hI (by omega) (by omega) hC hS⟩
    | 7, _ => exact Or.inl ⟨7, 698, 738, by omega, by omega, rfl, rfl, L_stamp (J := J) hJ hL hj hN hI (by omega) (by omega) hC hS⟩
    | 8, _ => exact Or.inl ⟨8, 766, 806, by omega, by omega, rfl, rfl, L_fits (J := J) hJ hL hj hN hI (by omega) (by omega) hC hS⟩
    | 9, _ => exact Or.inl ⟨9, 853, 893, by omega, by omega, rfl, rfl, L_fitting (J := J) hJ hL hj hN hI (by omega) (by omega) hC hS⟩
    | 10, _ => exact Or.inl ⟨10, 933, 973, by omega, by omega, rfl, rfl, L_origin (J := J) hJ hL hj hN hI (by omega) (by omega) hC hS⟩
    | 11, _ => exact Or.inl ⟨11, 1001, 1041, by omega, by omega, rfl, rfl, L_mount (J := J) hJ hL hj hN hI (by omega) (by omega) hC hS⟩
    | 12, _ => exact Or.inl ⟨12, 1081, 1121, by omega, by omega, rfl, rfl, L_release (J := J) hJ hL hj hN hI (by omega) (by omega) hC hS⟩
    | 13, _ => exact Or.inl ⟨13, 1137, 1177, by omega, by omega, rfl, rfl, L_at (J := J) hJ hL hj hN hI (by omega) (by omega) hC hS⟩
    | 14, _ => exact Or.inl ⟨14, 1205, 1245, by omega, by omega, rfl, rfl, L_advise (J := J) hJ hL hj hN hI (by omega) (by omega) hC hS⟩
    | 15, _ => exact Or.inl ⟨15, 1261, 1301, by omega, by omega, rfl, rfl, L_count (J := J) hJ hL hj hN hI (by omega) (by omega) hC hS⟩
    | 16, _ => exact Or.inl ⟨16, 1317, 1357, by omega, by omega, rfl, rfl, L_reunited (J := J) hJ hL hj hN hI (by omega) (by omega) hC hS⟩
    | 17, _ => exact Or.inl ⟨17, 1358, 1398, by omega, by omega, rfl, rfl, L_digest (J := J) hJ hL hj hN hI (by omega) (by omega) hC hS⟩
    | i + 18, h => exact absurd h (by omega)
  · exact Or.inr ⟨by omega, 1412, rfl, hN _ _ _ _ _ _ hI (by omega) (by omega)⟩
theorem L_next {RC RS b L : Nat} {xs : Nat → Int32} {J : jj_K} {X Y : Nat → Nat} {q C S j : Nat} (hJ : lw_J RC RS b L xs J) (h : lw_H b L X Y q C S J 23 (j + 1)) : lw_H b L X Y q C S J 1412 j := by
  intro η k n σ th f hI hk hn
  have g := h η k n σ th f hI hk hn
  rw [show 7 * (j + 1) = 7 * j + 7 from rfl, ← nI_add] at g
  refine hJ.1 [(23, 5)] 6 ?_
  exact g
theorem L_loop {RC RS b L : Nat} {xs : Nat → Int32} {J : jj_K} {X Y : Nat → Nat} {q : Nat} {C S : Nat → Nat} (hJ : lw_J RC RS b L xs J) (hL : L ≤ 3584) (hC : ∀ j, j ≤ 512 → C j ≤ RC) (hS : ∀ j, j ≤ 512 → S j ≤ RS) (hC1 : ∀ j, C j + 464 ≤ C (j + 1)) (hS1 : ∀ j, S j + 4040 ≤ S (j + 1)) : ∀ m j, j + m = 512 → lw_H b L X Y q (C j) (S j) J 23 j := by
  obtain ⟨run, sd, sn, sc, wd, fin⟩ := id hJ
  intro m
  induction m with
  | zero =>
    intro j hj η k n σ th f hI hk hn
    have hCj := hC j (by omega)
    have hSj := hS j (by omega)
    refine run [] 3 ?_
    refine sn dL_26 ?_
    refine run [] 6 ?_
    refine ⟨fun c1 => fin (Nat.le_trans hk hCj) (Nat.le_trans hn hSj), fun c1 => ?_⟩
    rw [cb_gt, w_sub hL, iN (by omega)] at c1
    omega
  | succ m ih =>
    intro j hj η k n σ th f hI hk hn
    have hCj := hC j (by omega)
    have hSj := hS j (by omega)
    have i1 := ih (j + 1) (by omega)
    have i2 := L_next hJ i1
    have i3 := hC (j + 1) (by omega)
    have i4 := hS (j + 1) (by omega)
    have i5 := Nat.le_trans (Nat.add_le_add_right hk 464) (hC1 j)
    have i6 := Nat.le_trans (Nat.add_le_add_right hn 4040) (hS1 j)
    refine run [] 3 ?_
    refine sn dL_26 ?_
    refine run [(33, 5)] 6 ?_
    refine ⟨fun c1 => fin (Nat.le_trans hk hCj) (Nat.le_trans hn hSj), fun c1 => ?_⟩
    rw [cb_gt, w_sub hL, iN (by omega)] at c1
    have hj7 : 7 * j + 7 ≤ L := by omega
    have i7 : J η k n 33 [(0, .ref b), (1, .ref (X 0)), (2, .ref (Y 0)), (3, .ref q), (4, .int (nI (7 * j)))] [] := L_body hJ hL hj7 i2 hI i5 i6 i3 i4
    exact i7
