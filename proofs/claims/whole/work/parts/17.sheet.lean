/-! SHEETS -/
theorem nI_mod (n : Nat) : nI n = nI (n % 4294967296) := by
  refine Int32.toBitVec_inj.mp ?_
  show BitVec.ofNat 32 n = BitVec.ofNat 32 (n % 4294967296)
  apply BitVec.eq_of_toNat_eq
  simp [BitVec.toNat_ofNat]
theorem lg0 (x y : Int64) : lg_cmp x y = 0 ↔ x = y := by
  unfold lg_cmp
  split
  next h => exact ⟨fun z => absurd z (by decide), fun z => by subst z; exact absurd h (by rw [gt_iff_lt, Int64.lt_iff_toInt_lt]; omega)⟩
  next h =>
    split
    next h2 => exact ⟨fun _ => h2, fun _ => rfl⟩
    next h2 => exact ⟨fun z => absurd z (by decide), fun z => absurd z h2⟩
theorem l_bit {t q : Nat} (ht : t < 2 ^ 64) (hq : q < 64) : (((lN t).toUInt64 >>> ((nI q).toInt64.toUInt64 &&& Int64.toUInt64 63)).toInt64 &&& 1) = 1 ↔ t.testBit q = true := by
  rw [wb_bit ht hq, show (1 : Int64) = lN 1 from rfl, lN_eq (by omega) (by omega), Nat.testBit_eq_decide_div_mod_eq]
  simp
theorem c_isTorn (η : jj_H) (a t r c : Nat) (v0 v1 v2 v3 v4 v5 v6 v7 : Value) (h : η a = some (x_o 4 [v0, v1, v2, v3, v4, v5, v6, v7, .long (lN t)])) (ht : t < 2 ^ 64) (hr : r < 8) (hc : c < 8) : jj_Ht mX4_isTorn [.ref a, .int (nI r), .int (nI c)] η 0 0 (fun v η' => v = some (.int (b01 (t.testBit (8 * r + c)))) ∧ η' = η) := by
  refine jj_go tok_X4_isTorn zok_X4 py_4 rfl 40 fun J => ?_
  refine ⟨_, h, 0, 0, _, c_placeAt η _ _, Nat.le_refl _, Nat.le_refl _, fun v η' hv => ?_⟩
  obtain ⟨rfl, rfl⟩ := hv
  rw [pl8]
  refine ⟨fun c1 => ?_, fun c1 => ?_⟩
  · have c1 : ¬ lg_cmp _ 1 = 0 := c1
    rw [lg0, l_bit ht (by omega)] at c1
    exact ⟨Or.inl rfl, ⟨rz (by simpa using c1), rfl⟩, Nat.zero_le _, Nat.zero_le _⟩
  · have c1 : ¬ ¬ lg_cmp _ 1 = 0 := c1
    rw [Classical.not_not, lg0, l_bit ht (by omega)] at c1
    exact ⟨Or.inr rfl, ⟨ro c1, rfl⟩, Nat.zero_le _, Nat.zero_le _⟩
theorem c_noteTorn (η : jj_H) (a t r c : Nat) (v0 v1 v2 v3 v4 v5 v6 v7 : Value) (h : η a = some (x_o 4 [v0, v1, v2, v3, v4, v5, v6, v7, .long (lN t)])) (hr : r < 8) (hc : c < 8) : jj_Ht mX4_noteTorn [.ref a, .int (nI r), .int (nI c)] η 0 0 (fun v η' => v = none ∧ η' = jj_up η a (x_o 4 [v0, v1, v2, v3, v4, v5, v6, v7, .long (lN (t ||| 2 ^ (8 * r + c)))])) := by
  refine jj_go tok_X4_noteTorn zok_X4 py_4 rfl 40 fun J => ?_
  refine ⟨_, h, 0, 0, _, c_placeAt η _ _, Nat.le_refl _, Nat.le_refl _, fun v η' hv => ?_⟩
  obtain ⟨rfl, rfl⟩ := hv
  rw [pl8]
  refine ⟨_, h, ⟨rfl, ?_⟩, Nat.zero_le _, Nat.zero_le _⟩
  rw [show (1 : Int64) = lN 1 from rfl, wb_shl 1 (by omega), fb_orL, Nat.one_mul]
/-- all the teeth of a gauge -/
def s_al (A B d : Nat) : Nat := 2 ^ (if d % 2 = 0 then A else B) - 1
theorem c_allTeeth (η : jj_H) (a A B d : Nat) (v0 v1 v2 v3 v4 v5 v8 : Value) (h : η a = some (x_o 4 [v0, v1, v2, v3, v4, v5, .int (nI A), .int (nI B), v8])) (hA : A < 31) (hB : B < 31) (hd : d < 4) : jj_Ht mX4_allTeeth [.ref a, .int (nI d)] η 0 0 (fun v η' => v = some (.int (nI (s_al A B d))) ∧ η' = η) := by
  have two : (nI 2).toInt = 2 := rfl
  refine jj_go tok_X4_allTeeth zok_X4 py_4 rfl 40 fun J => ?_
  refine ⟨fun c1 => ?_, fun c1 => ⟨fun c2 => ?_, fun c2 => ?_⟩⟩
  · rw [cb_eq, i0, iN (by omega)] at c1
    refine ⟨_, h, trivial, ⟨?_, rfl⟩, Nat.zero_le _, Nat.zero_le _⟩
    rw [sh_pow _ hA, pk_sub (Nat.one_le_two_pow)]
    unfold s_al
    rw [if_pos (by omega)]
  · rw [cb_eq, i0, iN (by omega)] at c1
    rw [cb_ne, two, iN (by omega)] at c2
    refine ⟨_, h, trivial, ⟨?_, rfl⟩, Nat.zero_le _, Nat.zero_le _⟩
    rw [sh_pow _ hB, pk_sub (Nat.one_le_two_pow)]
    unfold s_al
    rw [if_neg (by omega)]
  · rw [cb_ne, two, iN (by omega)] at c2
    refine ⟨_, h, trivial, ⟨?_, rfl⟩, Nat.zero_le _, Nat.zero_le _⟩
    rw [sh_pow _ hA, pk_sub (Nat.one_le_two_pow)]
    unfold s_al
    rw [if_pos (by omega)]
/-- the teeth of number n with the seed z, all the teeth u (a power of 2 less 1) -/
def s_ct (z n u : Nat) : Nat := if (z * 31 + n) * 40503 % 4294967296 / 32 % (u + 1) = 0 ∨ (z * 31 + n) * 40503 % 4294967296 / 32 % (u + 1) = u then 1 else (z * 31 + n) * 40503 % 4294967296 / 32 % (u + 1)
/-- .. between two places: C columns -/
def s_cut (C z u r c d : Nat) : Nat := s_ct z (2 * (r * C + c) + if d = 1 then 1 else 0) u
theorem s_ct_le {z n u : Nat} (hu : 1 ≤ u) : s_ct z n u ≤ u := by
  unfold s_ct
  split
  · exact hu
  · have := Nat.mod_lt ((z * 31 + n) * 40503 % 4294967296 / 32) (show 0 < u + 1 by omega)
    omega
theorem s_cut_le {C z u r c d : Nat} (hu : 1 ≤ u) : s_cut C z u r c d ≤ u := s_ct_le hu
theorem s_al_s (A B d : Nat) : ∃ g, s_al A B d = 2 ^ g - 1 ∧ (g = A ∨ g = B) := by
  unfold s_al
  split
  · exact ⟨A, rfl, Or.inl rfl⟩
  · exact ⟨B, rfl, Or.inr rfl⟩
theorem s_al_pos {A B d : Nat} (hA : 1 ≤ A) (hB : 1 ≤ B) : 1 ≤ s_al A B d := by
  unfold s_al
  split
  · have := Nat.pow_le_pow_right (show 0 < 2 by omega) hA
    omega
  · have := Nat.pow_le_pow_right (show 0 < 2 by omega) hB
    omega
theorem s_al_le {A B d : Nat} (hA : A ≤ 16) (hB : B ≤ 16) : s_al A B d ≤ 65535 := by
  unfold s_al
  split
  · have := Nat.pow_le_pow_right (show 0 < 2 by omega) hA
    omega
  · have := Nat.pow_le_pow_right (show 0 < 2 by omega) hB
    omega
/-- the arithmetic of the teeth, as both sides do it -/
theorem i_cut (z n g : Nat) (hg : g < 31) : (((nI z * nI 31 + nI n) * nI 40503).toUInt32 >>> ((nI 5).toUInt32 &&& Int32.toUInt32 31)).toInt32 &&& nI (2 ^ g - 1) = nI ((z * 31 + n) * 40503 % 4294967296 / 32 % 2 ^ g) := by
  rw [pk_mul, nI_add, pk_mul, nI_mod ((z * 31 + n) * 40503), pk_ushrN (Nat.mod_lt _ (by decide)) (nI 5) 5 (by decide), fa_mask]
theorem c_cutTeeth (η : jj_H) (a b A B z C r c d : Nat) (v1 v2 v4 v5 v8 w0 w2 w3 w4 : Value) (h : η a = some (x_o 4 [.ref b, v1, v2, .int (nI z), v4, v5, .int (nI A), .int (nI B), v8])) (hb : η b = some (x_o 3 [w0, .int (nI C), w2, w3, w4])) (hA : A ≤ 16) (hB : B ≤ 16) (hd : d = 1 ∨ d = 2) : jj_Ht mX4_cutTeeth [.ref a, .int (nI r), .int (nI c), .int (nI d)] η 0 0 (fun v η' => v = some (.int (nI (s_cut C z (s_al A B d) r c d))) ∧ η' = η) := by
  obtain ⟨g, hg, hg2⟩ := s_al_s A B d
  have hu : s_al A B d ≤ 65535 := s_al_le hA hB
  have hg3 : 1 ≤ 2 ^ g := Nat.one_le_two_pow
  have e1 : nI 2 * (nI r * nI C + nI c) + nI 1 = nI (2 * (r * C + c) + 1) := by rw [pk_mul, nI_add, pk_mul, nI_add]
  have e2 : nI 2 * (nI r * nI C + nI c) + 0 = nI (2 * (r * C + c) + 0) := by rw [pk_mul, nI_add, pk_mul, ← nI_0, nI_add]
  have hg9 : g < 31 := by omega
  rcases hd with rfl | rfl
  · refine jj_go tok_X4_cutTeeth zok_X4 py_4 rfl 80 fun J => ?_
    refine ⟨_, h, _, hb, fun c1 => absurd rfl c1, fun c1 => ?_⟩
    refine ⟨_, h, _, h, 0, 0, _, c_allTeeth η a A B 1 _ _ _ _ _ _ _ h (by omega) (by omega) (by omega), Nat.le_refl _, Nat.le_refl _, fun v η' hv => ?_⟩
    obtain ⟨rfl, rfl⟩ := hv
    rw [e1]
    have ec := i_cut z (2 * (r * C + c) + 1) g hg9
    rw [← hg] at ec
    have hlt : (z * 31 + (2 * (r * C + c) + 1)) * 40503 % 4294967296 / 32 % 2 ^ g < 2 ^ g := Nat.mod_lt _ (by omega)
    unfold s_cut s_ct
    rw [if_pos rfl]
    refine ⟨fun c2 => ?_, fun c2 => ⟨fun c3 => ?_, fun c3 => ?_⟩⟩
    · rw [ec, cb_eq, i0, iN (by omega)] at c2
      refine ⟨trivial, ⟨?_, rfl⟩, Nat.zero_le _, Nat.zero_le _⟩
      rw [hg, show 2 ^ g - 1 + 1 = 2 ^ g by omega, if_pos (Or.inl (by omega))]
    · rw [ec, cb_ne, iN (by omega), iN (by omega)] at c3
      rw [ec, cb_eq, i0, iN (by omega)] at c2
      refine ⟨trivial, ⟨?_, rfl⟩, Nat.zero_le _, Nat.zero_le _⟩
      rw [ec, hg, show 2 ^ g - 1 + 1 = 2 ^ g by omega, if_neg (by omega)]
    · rw [ec, cb_ne, iN (by omega), iN (by omega)] at c3
      refine ⟨trivial, ⟨?_, rfl⟩, Nat.zero_le _, Nat.zero_le _⟩
      rw [hg, show 2 ^ g - 1 + 1 = 2 ^ g by omega, if_pos (Or.inr (by omega))]
  · refine jj_go tok_X4_cutTeeth zok_X4 py_4 rfl 80 fun J => ?_
    refine ⟨_, h, _, hb, fun c1 => ?_, fun c1 => absurd (by show ¬ (_ = _); decide) c1⟩
    refine ⟨_, h, _, h, 0, 0, _, c_allTeeth η a A B 2 _ _ _ _ _ _ _ h (by omega) (by omega) (by omega), Nat.le_refl _, Nat.le_refl _, fun v η' hv => ?_⟩
    obtain ⟨rfl, rfl⟩ := hv
    rw [e2]
    have ec := i_cut z (2 * (r * C + c) + 0) g hg9
    rw [← hg] at ec
    have hlt : (z * 31 + (2 * (r * C + c) + 0)) * 40503 % 4294967296 / 32 % 2 ^ g < 2 ^ g := Nat.mod_lt _ (by omega)
    unfold s_cut s_ct
    rw [if_neg (show ¬ (2 : Nat) = 1 by decide)]
    refine ⟨fun c2 => ?_, fun c2 => ⟨fun c3 => ?_, fun c3 => ?_⟩⟩
    · rw [ec, cb_eq, i0, iN (by omega)] at c2
      refine ⟨trivial, ⟨?_, rfl⟩, Nat.zero_le _, Nat.zero_le _⟩
      rw [hg, show 2 ^ g - 1 + 1 = 2 ^ g by omega, if_pos (Or.inl (by omega))]
    · rw [ec, cb_ne, iN (by omega), iN (by omega)] at c3
      rw [ec, cb_eq, i0, iN (by omega)] at c2
      refine ⟨trivial, ⟨?_, rfl⟩, Nat.zero_le _, Nat.zero_le _⟩
      rw [ec, hg, show 2 ^ g - 1 + 1 = 2 ^ g by omega, if_neg (by omega)]
    · rw [ec, cb_ne, iN (by omega), iN (by omega)] at c3
      refine ⟨trivial, ⟨?_, rfl⟩, Nat.zero_le _, Nat.zero_le _⟩
      rw [hg, show 2 ^ g - 1 + 1 = 2 ^ g by omega, if_pos (Or.inr (by omega))]
/-- the teeth that a stamp has when it is torn: R rows, C columns -/
def s_prt (R C z u r c d : Nat) : Nat := match d with
  | 0 => if r = 0 then 0 else u - s_cut C z u (r - 1) c 2
  | 1 => if c + 1 = C then 0 else s_cut C z u r c 1
  | 2 => if r + 1 = R then 0 else s_cut C z u r c 2
  | _ => if c = 0 then 0 else u - s_cut C z u r (c - 1) 1
theorem c_hp_in (η : jj_H) (b R C r c : Nat) (x y : Int32) (w2 w3 w4 : Value) (hb : η b = some (x_o 3 [.int (nI R), .int (nI C), w2, w3, w4])) (hR : R ≤ 8) (hC : C ≤ 8) (hr : r < R) (hc : c < C) (hx : x = nI r) (hy : y = nI c) : jj_Ht mX3_hasPlace [.ref b, .int x, .int y] η 0 0 (fun v η' => v = some (.int 1) ∧ η' = η) := by
  subst hx hy
  refine (c_hasPlace3 η b _ _ _ _ _ _ _ hb).mono fun v η' h => ⟨h.1.trans ?_, h.2⟩
  rw [b01_1 (by rw [iN (by omega), iN (by omega), iN (by omega), iN (by omega)]; simp; omega)]
theorem c_hp_out (η : jj_H) (b R C : Nat) (r c : Int32) (w2 w3 w4 : Value) (hb : η b = some (x_o 3 [.int (nI R), .int (nI C), w2, w3, w4])) (hR : R ≤ 8) (hC : C ≤ 8) (h : r.toInt < 0 ∨ (R : Int) ≤ r.toInt ∨ c.toInt < 0 ∨ (C : Int) ≤ c.toInt) : jj_Ht mX3_hasPlace [.ref b, .int r, .int c] η 0 0 (fun v η' => v = some (.int 0) ∧ η' = η) := by
  refine (c_hasPlace3 η b _ _ _ _ _ _ _ hb).mono fun v η' h => ⟨h.1.trans ?_, h.2⟩
  rw [b01_0 (by rw [iN (by omega), iN (by omega)]; simp; omega)]
theorem a_z (x : Int32) : x + 0 = x := Int32.add_zero x
theorem c_printedTeeth (η : jj_H) (a b A B z R C r c d : Nat) (v1 v2 v4 v5 v8 w2 w3 w4 : Value) (h : η a = some (x_o 4 [.ref b, v1, v2, .int (nI z), v4, v5, .int (nI A), .int (nI B), v8])) (hb : η b = some (x_o 3 [.int (nI R), .int (nI C), w2, w3, w4])) (hA : A ≤ 16) (hB : B ≤ 16) (hA5 : 1 ≤ A) (hB5 : 1 ≤ B) (hR : R ≤ 8) (hC : C ≤ 8) (hr : r < R) (hc : c < C) (hd : d < 4) : jj_Ht mX4_printedTeeth [.ref a, .int (nI r), .int (nI c), .int (nI d)] η 0 0 (fun v η' => v = some (.int (nI (s_prt R C z (s_al A B d) r c d))) ∧ η' = η) := by
  have hu : 1 ≤ s_al A B d := s_al_pos hA5 hB5
  rcases lt4 hd with rfl | rfl | rfl | rfl
  · cases r with
    | zero =>
      refine jj_go tok_X4_printedTeeth zok_X4 py_4 rfl 80 fun J => ?_
      refine ⟨0, 0, _, c_rowStep η 0 hd, Nat.le_refl _, Nat.le_refl _, fun v η' hv => ?_⟩
      obtain ⟨rfl, rfl⟩ := hv
      refine ⟨0, 0, _, c_columnStep η' 0 hd, Nat.le_refl _, Nat.le_refl _, fun v η'' hv => ?_⟩
      obtain ⟨rfl, rfl⟩ := hv
      refine ⟨_, h, _, hb, 0, 0, _, c_hp_out η'' b R C _ _ _ _ _ hb hR hC (by left; decide), Nat.le_refl _, Nat.le_refl _, fun v η' hv => ?_⟩
      obtain ⟨rfl, rfl⟩ := hv
      refine ⟨fun q => absurd rfl q, fun _ => ⟨trivial, ⟨?_, rfl⟩, Nat.zero_le _, Nat.zero_le _⟩⟩
      rfl
    | succ r =>
      refine jj_go tok_X4_printedTeeth zok_X4 py_4 rfl 80 fun J => ?_
      refine ⟨0, 0, _, c_rowStep η 0 hd, Nat.le_refl _, Nat.le_refl _, fun v η' hv => ?_⟩
      obtain ⟨rfl, rfl⟩ := hv
      refine ⟨0, 0, _, c_columnStep η' 0 hd, Nat.le_refl _, Nat.le_refl _, fun v η'' hv => ?_⟩
      obtain ⟨rfl, rfl⟩ := hv
      refine ⟨_, h, _, hb, 0, 0, _, c_hp_in η'' b R C r c _ _ _ _ _ hb hR hC (by omega) (by omega) (pk_m1 r) (a_z _), Nat.le_refl _, Nat.le_refl _, fun v η' hv => ?_⟩
      obtain ⟨rfl, rfl⟩ := hv
      rw [show nI (r + 1) + jj_sv 0 0 = nI r from pk_m1 r, show nI c + jj_sv 1 0 = nI c from a_z _]
      refine ⟨fun _ => ?_, fun q => absurd (show ¬ (1 : Int32) = 0 by decide) q⟩
      refine ⟨fun q => absurd (show nI 0 = nI 1 from q) (by decide), fun _ => ⟨fun _ => ?_, fun q => absurd (show ¬ nI 0 = nI 2 by decide) q⟩⟩
      refine ⟨_, h, 0, 0, _, c_allTeeth η' a A B 0 _ _ _ _ _ _ _ h (by omega) (by omega) (by omega), Nat.le_refl _, Nat.le_refl _, fun v η'' hv => ?_⟩
      obtain ⟨rfl, rfl⟩ := hv
      refine ⟨0, 0, _, c_opposite η'' 0 hd, Nat.le_refl _, Nat.le_refl _, fun v η' hv => ?_⟩
      obtain ⟨rfl, rfl⟩ := hv
      refine ⟨_, h, 0, 0, _, c_cutTeeth η' a b A B z C r c 2 _ _ _ _ _ _ _ _ _ h hb hA hB (by omega), Nat.le_refl _, Nat.le_refl _, fun v η'' hv => ?_⟩
      obtain ⟨rfl, rfl⟩ := hv
      refine ⟨trivial, ⟨?_, rfl⟩, Nat.zero_le _, Nat.zero_le _⟩
      have e9 : s_prt R C z (s_al A B 0) (r + 1) c 0 = s_al A B 0 - s_cut C z (s_al A B 0) r c 2 := rfl
      have e8 : s_cut C z (s_al A B 0) r c 2 ≤ s_al A B 0 := s_cut_le hu
      rw [e9, ← pk_sub e8]
      rfl
  · by_cases hz : c + 1 = C
    · refine jj_go tok_X4_printedTeeth zok_X4 py_4 rfl 80 fun J => ?_
      refine ⟨0, 0, _, c_rowStep η 1 hd, Nat.le_refl _, Nat.le_refl _, fun v η' hv => ?_⟩
      obtain ⟨rfl, rfl⟩ := hv
      refine ⟨0, 0, _, c_columnStep η' 1 hd, Nat.le_refl _, Nat.le_refl _, fun v η'' hv => ?_⟩
      obtain ⟨rfl, rfl⟩ := hv
      refine ⟨_, h, _, hb, 0, 0, _, c_hp_out η'' b R C _ _ _ _ _ hb hR hC (by rw [show nI c + jj_sv 1 1 = nI (c + 1) from nI_1 c, iN (show c + 1 < 2147483648 by omega)]; omega), Nat.le_refl _, Nat.le_refl _, fun v η' hv => ?_⟩
      obtain ⟨rfl, rfl⟩ := hv
      refine ⟨fun q => absurd rfl q, fun _ => ⟨trivial, ⟨?_, rfl⟩, Nat.zero_le _, Nat.zero_le _⟩⟩
      unfold s_prt
      rw [if_pos hz]
      rfl
    · refine jj_go tok_X4_printedTeeth zok_X4 py_4 rfl 80 fun J => ?_
      refine ⟨0, 0, _, c_rowStep η 1 hd, Nat.le_refl _, Nat.le_refl _, fun v η' hv => ?_⟩
      obtain ⟨rfl, rfl⟩ := hv
      refine ⟨0, 0, _, c_columnStep η' 1 hd, Nat.le_refl _, Nat.le_refl _, fun v η'' hv => ?_⟩
      obtain ⟨rfl, rfl⟩ := hv
      refine ⟨_, h, _, hb, 0, 0, _, c_hp_in η'' b R C r (c + 1) _ _ _ _ _ hb hR hC (by omega) (by omega) (a_z _) (nI_1 c), Nat.le_refl _, Nat.le_refl _, fun v η' hv => ?_⟩
      obtain ⟨rfl, rfl⟩ := hv
      rw [show nI r + jj_sv 0 1 = nI r from a_z _, show nI c + jj_sv 1 1 = nI (c + 1) from nI_1 c]
      refine ⟨fun _ => ?_, fun q => absurd (show ¬ (1 : Int32) = 0 by decide) q⟩
      refine ⟨fun _ => ?_, fun q => absurd (show nI 1 = nI 1 from rfl) q⟩
      refine ⟨_, h, 0, 0, _, c_cutTeeth η' a b A B z C r c 1 _ _ _ _ _ _ _ _ _ h hb hA hB (by omega), Nat.le_refl _, Nat.le_refl _, fun v η'' hv => ?_⟩
      obtain ⟨rfl, rfl⟩ := hv
      refine ⟨trivial, ⟨?_, rfl⟩, Nat.zero_le _, Nat.zero_le _⟩
      rw [show s_prt R C z (s_al A B 1) r c 1 = s_cut C z (s_al A B 1) r c 1 from if_neg hz]
  · by_cases hz : r + 1 = R
    · refine jj_go tok_X4_printedTeeth zok_X4 py_4 rfl 80 fun J => ?_
      refine ⟨0, 0, _, c_rowStep η 2 hd, Nat.le_refl _, Nat.le_refl _, fun v η' hv => ?_⟩
      obtain ⟨rfl, rfl⟩ := hv
      refine ⟨0, 0, _, c_columnStep η' 2 hd, Nat.le_refl _, Nat.le_refl _, fun v η'' hv => ?_⟩
      obtain ⟨rfl, rfl⟩ := hv
      refine ⟨_, h, _, hb, 0, 0, _, c_hp_out η'' b R C _ _ _ _ _ hb hR hC (by rw [show nI r + jj_sv 0 2 = nI (r + 1) from nI_1 r, iN (show r + 1 < 2147483648 by omega)]; omega), Nat.le_refl _, Nat.le_refl _, fun v η' hv => ?_⟩
      obtain ⟨rfl, rfl⟩ := hv
      refine ⟨fun q => absurd rfl q, fun _ => ⟨trivial, ⟨?_, rfl⟩, Nat.zero_le _, Nat.zero_le _⟩⟩
      unfold s_prt
      rw [if_pos hz]
      rfl
    · refine jj_go tok_X4_printedTeeth zok_X4 py_4 rfl 80 fun J => ?_
      refine ⟨0, 0, _, c_rowStep η 2 hd, Nat.le_refl _, Nat.le_refl _, fun v η' hv => ?_⟩
      obtain ⟨rfl, rfl⟩ := hv
      refine ⟨0, 0, _, c_columnStep η' 2 hd, Nat.le_refl _, Nat.le_refl _, fun v η'' hv => ?_⟩
      obtain ⟨rfl, rfl⟩ := hv
      refine ⟨_, h, _, hb, 0, 0, _, c_hp_in η'' b R C (r + 1) c _ _ _ _ _ hb hR hC (by omega) (by omega) (nI_1 r) (a_z _), Nat.le_refl _, Nat.le_refl _, fun v η' hv => ?_⟩
      obtain ⟨rfl, rfl⟩ := hv
      rw [show nI r + jj_sv 0 2 = nI (r + 1) from nI_1 r, show nI c + jj_sv 1 2 = nI c from a_z _]
      refine ⟨fun _ => ?_, fun q => absurd (show ¬ (1 : Int32) = 0 by decide) q⟩
      refine ⟨fun q => absurd (show nI 2 = nI 1 from q) (by decide), fun _ => ⟨fun q => absurd (show nI 2 = nI 2 from rfl) q, fun _ => ?_⟩⟩
      refine ⟨_, h, 0, 0, _, c_cutTeeth η' a b A B z C r c 2 _ _ _ _ _ _ _ _ _ h hb hA hB (by omega), Nat.le_refl _, Nat.le_refl _, fun v η'' hv => ?_⟩
      obtain ⟨rfl, rfl⟩ := hv
      refine ⟨trivial, ⟨?_, rfl⟩, Nat.zero_le _, Nat.zero_le _⟩
      rw [show s_prt R C z (s_al A B 2) r c 2 = s_cut C z (s_al A B 2) r c 2 from if_neg hz]
  · cases c with
    | zero =>
      refine jj_go tok_X4_printedTeeth zok_X4 py_4 rfl 80 fun J => ?_
      refine ⟨0, 0, _, c_rowStep η 3 hd, Nat.le_refl _, Nat.le_refl _, fun v η' hv => ?_⟩
      obtain ⟨rfl, rfl⟩ := hv
      refine ⟨0, 0, _, c_columnStep η' 3 hd, Nat.le_refl _, Nat.le_refl _, fun v η'' hv => ?_⟩
      obtain ⟨rfl, rfl⟩ := hv
      refine ⟨_, h, _, hb, 0, 0, _, c_hp_out η'' b R C _ _ _ _ _ hb hR hC (by right; right; left; decide), Nat.le_refl _, Nat.le_refl _, fun v η' hv => ?_⟩
      obtain ⟨rfl, rfl⟩ := hv
      refine ⟨fun q => absurd rfl q, fun _ => ⟨trivial, ⟨?_, rfl⟩, Nat.zero_le _, Nat.zero_le _⟩⟩
      rfl
    | succ c =>
      refine jj_go tok_X4_printedTeeth zok_X4 py_4 rfl 80 fun J => ?_
      refine ⟨0, 0, _, c_rowStep η 3 hd, Nat.le_refl _, Nat.le_refl _, fun v η' hv => ?_⟩
      obtain ⟨rfl, rfl⟩ := hv
      refine ⟨0, 0, _, c_columnStep η' 3 hd, Nat.le_refl _, Nat.le_refl _, fun v η'' hv => ?_⟩
      obtain ⟨rfl, rfl⟩ := hv
      refine ⟨_, h, _, hb, 0, 0, _, c_hp_in η'' b R C r c _ _ _ _ _ hb hR hC (by omega) (by omega) (a_z _) (pk_m1 c), Nat.le_refl _, Nat.le_refl _, fun v η' hv => ?_⟩
      obtain ⟨rfl, rfl⟩ := hv
      rw [show nI r + jj_sv 0 3 = nI r from a_z _, show nI (c + 1) + jj_sv 1 3 = nI c from pk_m1 c]
      refine ⟨fun _ => ?_, fun q => absurd (show ¬ (1 : Int32) = 0 by decide) q⟩
      refine ⟨fun q => absurd (show nI 3 = nI 1 from q) (by decide), fun _ => ⟨fun _ => ?_, fun q => absurd (show ¬ nI 3 = nI 2 by decide) q⟩⟩
      refine ⟨_, h, 0, 0, _, c_allTeeth η' a A B 3 _ _ _ _ _ _ _ h (by omega) (by omega) (by omega), Nat.le_refl _, Nat.le_refl _, fun v η'' hv => ?_⟩
      obtain ⟨rfl, rfl⟩ := hv
      refine ⟨0, 0, _, c_opposite η'' 3 hd, Nat.le_refl _, Nat.le_refl _, fun v η' hv => ?_⟩
      obtain ⟨rfl, rfl⟩ := hv
      refine ⟨_, h, 0, 0, _, c_cutTeeth η' a b A B z C r c 1 _ _ _ _ _ _ _ _ _ h hb hA hB (by omega), Nat.le_refl _, Nat.le_refl _, fun v η'' hv => ?_⟩
      obtain ⟨rfl, rfl⟩ := hv
      refine ⟨trivial, ⟨?_, rfl⟩, Nat.zero_le _, Nat.zero_le _⟩
      have e9 : s_prt R C z (s_al A B 3) r (c + 1) 3 = s_al A B 3 - s_cut C z (s_al A B 3) r c 1 := rfl
      have e8 : s_cut C z (s_al A B 3) r c 1 ≤ s_al A B 3 := s_cut_le hu
      rw [e9, ← pk_sub e8]
      rfl
