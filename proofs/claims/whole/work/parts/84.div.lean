/-! THE QUOTIENT OF TWO COUNTS IS A NUMBER -/
theorem d_mask (n : Nat) : (UInt64.ofNat n &&& 0x7fffffffffffffff).toNat = n % 9223372036854775808 := by
  rw [UInt64.toNat_and]
  show (UInt64.ofNat n).toNat &&& (2 ^ 63 - 1) = _
  rw [Nat.and_two_pow_sub_one_eq_mod, UInt64.toNat_ofNat']
  show n % 18446744073709551616 % 9223372036854775808 = _
  exact Nat.mod_mod_of_dvd n ⟨2, rfl⟩
theorem d_asm (s e t : Nat) (he : e * 4503599627370496 + t ≤ 9218868437227405312) : ((s * 2048 + e) * 4503599627370496 + t) % 9223372036854775808 ≤ 9218868437227405312 := by
  have e1 : (s * 2048 + e) * 4503599627370496 + t = 9223372036854775808 * s + (e * 4503599627370496 + t) := by
    rw [Nat.add_mul, Nat.mul_assoc, Nat.add_assoc, Nat.mul_comm s]
  rw [e1, Nat.mul_add_mod]
  exact Nat.le_trans (Nat.mod_le _ _) he
theorem d_bnd (s : Bool) (c : Nat) (q : Int) (hc : c < 9007199254740992) : Jvm.FP.Core.encode Jvm.FP.Core.b64 (Jvm.FP.Core.bound Jvm.FP.Core.b64 s c q) % 9223372036854775808 ≤ 9218868437227405312 := by
  have eM : Jvm.FP.Core.b64.qmax = 971 := by decide
  have em : Jvm.FP.Core.b64.qmin = -1074 := by decide
  have eT : Jvm.FP.Core.b64.tails = 4503599627370496 := rfl
  unfold Jvm.FP.Core.bound
  rw [eM]
  split
  next hq =>
    show (if c < Jvm.FP.Core.b64.tails then Jvm.FP.Core.assemble Jvm.FP.Core.b64 s 0 c else Jvm.FP.Core.assemble Jvm.FP.Core.b64 s ((q - Jvm.FP.Core.b64.qmin).toNat + 1) (c - Jvm.FP.Core.b64.tails)) % _ ≤ _
    rw [eT, em]
    split
    next h =>
      exact d_asm s.toNat 0 c (by omega)
    next h =>
      refine d_asm s.toNat ((q - -1074).toNat + 1) (c - 4503599627370496) ?_
      have h3 : (q - -1074).toNat + 1 ≤ 2046 := by omega
      have h4 : c - 4503599627370496 ≤ 4503599627370495 := by omega
      exact Nat.le_trans (Nat.add_le_add (Nat.mul_le_mul_right 4503599627370496 h3) h4) (by decide)
  next hq =>
    exact d_asm s.toNat 2047 0 (by decide)
theorem d_stl (s : Bool) (c : Nat) (q : Int) : Jvm.FP.Core.encode Jvm.FP.Core.b64 (Jvm.FP.Core.settle Jvm.FP.Core.b64 s c q) % 9223372036854775808 ≤ 9218868437227405312 := by
  unfold Jvm.FP.Core.settle
  split
  next h => exact d_bnd s c q h
  next h => exact d_bnd s _ (q + 1) (by decide)
theorem d_rat (s : Bool) (a b : Nat) (e : Int) : Jvm.FP.Core.encode Jvm.FP.Core.b64 (Jvm.FP.Core.roundRatio Jvm.FP.Core.b64 s a b e) % 9223372036854775808 ≤ 9218868437227405312 := by
  unfold Jvm.FP.Core.roundRatio
  split
  · have e : Jvm.FP.Core.encode Jvm.FP.Core.b64 (.fin s 0 Jvm.FP.Core.b64.qmin) = Jvm.FP.Core.assemble Jvm.FP.Core.b64 s 0 0 := by
      unfold Jvm.FP.Core.encode
      exact if_pos (by decide)
    rw [e]
    exact d_asm s.toNat 0 0 (by decide)
  · exact d_stl _ _ _
def d_b (a : Nat) : Bool := match Jvm.FP.Core.decode Jvm.FP.Core.b64 (FP.i2d (nI a)).toNat with
  | .fin _ c _ => decide (a = 0) || decide (c ≠ 0)
  | _ => false
theorem d_all : ∀ a, a < 1601 → d_b a = true := by decide +kernel
theorem d_fin {a : Nat} (h : a < 1601) : ∃ s c q, Jvm.FP.Core.decode Jvm.FP.Core.b64 (FP.i2d (nI a)).toNat = .fin s c q ∧ (a ≠ 0 → c ≠ 0) := by
  have := d_all a h
  unfold d_b at this
  split at this
  next s c q e =>
    refine ⟨s, c, q, e, fun h0 => ?_⟩
    simpa [h0] using this
  next => cases this
theorem d_num {a b : Nat} (ha : a < 1601) (hb : b < 1601) (h0 : b ≠ 0) : vf_n64 (FP.ddiv (FP.i2d (nI a)) (FP.i2d (nI b))) := by
  unfold vf_n64
  rw [UInt64.le_iff_toNat_le]
  show (UInt64.ofNat (Jvm.FP.Core.encode Jvm.FP.Core.b64 (Jvm.FP.Core.quotient Jvm.FP.Core.b64 (Jvm.FP.Core.decode Jvm.FP.Core.b64 (FP.i2d (nI a)).toNat) (Jvm.FP.Core.decode Jvm.FP.Core.b64 (FP.i2d (nI b)).toNat))) &&& 0x7fffffffffffffff).toNat ≤ 9218868437227405312
  rw [d_mask]
  obtain ⟨s, c, q, e1, -⟩ := d_fin ha
  obtain ⟨t, d, r, e2, h2⟩ := d_fin hb
  have hd := h2 h0
  rw [e1, e2]
  have e3 : Jvm.FP.Core.quotient Jvm.FP.Core.b64 (.fin s c q) (.fin t d r) = Jvm.FP.Core.roundRatio Jvm.FP.Core.b64 (s != t) c d (q - r) := if_neg hd
  rw [e3]
  exact d_rat _ _ _ _
