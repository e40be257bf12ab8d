/-! COUNTING THE BITS OF A LONG -/
theorem and_2 {x y b m : Nat} (hb : b < 256) (hm : m < 256) : (256 * x + b) &&& (256 * y + m) = 256 * (x &&& y) + (b &&& m) := by
  refine Nat.eq_of_testBit_eq fun i => ?_
  have h1 : (b &&& m) < 2 ^ 8 := Nat.and_lt_two_pow b hm
  rw [Nat.testBit_and, show 256 = 2 ^ 8 from rfl, Nat.testBit_two_pow_mul_add x hb, Nat.testBit_two_pow_mul_add y hm, Nat.testBit_two_pow_mul_add (x &&& y) h1]
  split
  · rw [Nat.testBit_and]
  · rw [Nat.testBit_and]
def p_mk (m : Nat) : Nat → Nat
  | 0 => 0
  | n + 1 => 256 * p_mk m n + m
/-- byte by byte -/
def p_R (f : Nat → Nat) : Nat → Nat → Nat
  | 0, _ => 0
  | n + 1, t => 256 * p_R f n (t / 256) + f (t % 256)
def p_f1 (b : Nat) : Nat := b - ((b / 2) &&& 85)
def p_f2 (b : Nat) : Nat := (b &&& 51) + ((b / 4) &&& 51)
def p_f3 (b : Nat) : Nat := (b + b / 16) &&& 15
def p_p (b : Nat) : Nat := p_f3 (p_f2 (p_f1 b))
theorem p_d1 : ∀ b, b < 256 → (p_f1 b < 256 ∧ ((b / 2) &&& 85) ≤ b) ∧ ∀ e, e < 2 → (128 * e + b / 2) &&& 85 = (b / 2) &&& 85 := by decide +kernel
theorem p_d2 : ∀ b, b < 256 → ∀ e, e < 4 → (64 * e + b / 4) &&& 51 = (b / 4) &&& 51 := by decide +kernel
theorem p_d3 : ∀ b, b < 69 → ∀ e, e < 5 → (16 * e + (b + b / 16)) &&& 15 = p_f3 b ∧ 16 * e + (b + b / 16) < 256 := by decide +kernel
theorem p_d4 : ∀ b, b < 256 → p_f2 (p_f1 b) % 16 < 5 ∧ p_f2 (p_f1 b) < 69 ∧ p_p b ≤ 8 ∧ p_p b = fb_ct (fun k => b.testBit k) 8 := by decide +kernel
theorem p_s1 : ∀ n t, t < 256 ^ n → t - ((t / 2) &&& p_mk 85 n) = p_R p_f1 n t
  | 0, t, h => by
    have : t = 0 := by simpa using h
    subst this
    rfl
  | n + 1, t, h => by
    obtain ⟨⟨-, g1⟩, g2⟩ := p_d1 (t % 256) (Nat.mod_lt _ (by decide))
    have ih := p_s1 n (t / 256) (by rw [Nat.pow_succ] at h; exact Nat.div_lt_of_lt_mul (by omega))
    have e1 : t / 2 = 256 * (t / 256 / 2) + (128 * (t / 256 % 2) + t % 256 / 2) := by omega
    have h2 : ((t / 256 / 2) &&& p_mk 85 n) ≤ t / 256 / 2 := Nat.and_le_left
    have e3 : (t / 2) &&& p_mk 85 (n + 1) = 256 * ((t / 256 / 2) &&& p_mk 85 n) + ((t % 256 / 2) &&& 85) := by
      rw [e1]
      show _ &&& (256 * p_mk 85 n + 85) = _
      rw [and_2 (by omega) (by decide), g2 _ (Nat.mod_lt _ (by decide))]
    rw [e3]
    show _ = 256 * p_R p_f1 n (t / 256) + p_f1 (t % 256)
    rw [← ih]
    unfold p_f1
    omega
theorem p_s2 (g : Nat → Nat) (hg : ∀ b, b < 256 → g b < 256) : ∀ n t, (p_R g n t &&& p_mk 51 n) + ((p_R g n t / 4) &&& p_mk 51 n) = p_R (fun b => p_f2 (g b)) n t
  | 0, t => by simp [p_R, p_mk]
  | n + 1, t => by
    have ih := p_s2 g hg n (t / 256)
    have hb := hg (t % 256) (Nat.mod_lt _ (by decide))
    have e1 : (256 * p_R g n (t / 256) + g (t % 256)) / 4 = 256 * (p_R g n (t / 256) / 4) + (64 * (p_R g n (t / 256) % 4) + g (t % 256) / 4) := by omega
    show ((256 * p_R g n (t / 256) + g (t % 256)) &&& (256 * p_mk 51 n + 51)) + (((256 * p_R g n (t / 256) + g (t % 256)) / 4) &&& (256 * p_mk 51 n + 51)) = 256 * p_R (fun b => p_f2 (g b)) n (t / 256) + p_f2 (g (t % 256))
    rw [e1, and_2 hb (by decide), and_2 (by omega) (by decide), p_d2 _ hb _ (Nat.mod_lt _ (by decide)), ← ih]
    unfold p_f2
    omega
theorem p_s3 (g : Nat → Nat) (hg : ∀ b, b < 256 → g b % 16 < 5 ∧ g b < 69) : ∀ n t, ((p_R g n t + p_R g n t / 16) &&& p_mk 15 n) = p_R (fun b => p_f3 (g b)) n t
  | 0, t => by simp [p_R, p_mk]
  | n + 1, t => by
    have ih := p_s3 g hg n (t / 256)
    have hb := hg (t % 256) (Nat.mod_lt _ (by decide))
    have h16 : p_R g n (t / 256) % 16 < 5 := by
      cases n with
      | zero => exact (by decide : (0 : Nat) % 16 < 5)
      | succ n =>
        have h9 := (hg (t / 256 % 256) (Nat.mod_lt _ (by decide))).1
        show (256 * p_R g n (t / 256 / 256) + g (t / 256 % 256)) % 16 < 5
        omega
    obtain ⟨d1, d2⟩ := p_d3 _ hb.2 _ h16
    have e1 : (256 * p_R g n (t / 256) + g (t % 256)) + (256 * p_R g n (t / 256) + g (t % 256)) / 16 = 256 * (p_R g n (t / 256) + p_R g n (t / 256) / 16) + (16 * (p_R g n (t / 256) % 16) + (g (t % 256) + g (t % 256) / 16)) := by omega
    show (((256 * p_R g n (t / 256) + g (t % 256)) + (256 * p_R g n (t / 256) + g (t % 256)) / 16) &&& (256 * p_mk 15 n + 15)) = 256 * p_R (fun b => p_f3 (g b)) n (t / 256) + p_f3 (g (t % 256))
    rw [e1, and_2 d2 (by decide), d1, ih]
def p_sum : Nat → Nat → Nat
  | 0, _ => 0
  | n + 1, t => p_p (t % 256) + p_sum n (t / 256)
theorem p_sum_ct : ∀ n t, p_sum n t = fb_ct (fun k => t.testBit k) (8 * n)
  | 0, t => rfl
  | n + 1, t => by
    rw [show 8 * (n + 1) = 8 + 8 * n by omega, fb_ct_split]
    show p_p (t % 256) + p_sum n (t / 256) = _
    rw [p_sum_ct n (t / 256), (p_d4 (t % 256) (Nat.mod_lt _ (by decide))).2.2.2]
    congr 1
    · refine fb_ct_cong fun k hk => ?_
      rw [show 256 = 2 ^ 8 from rfl, Nat.testBit_mod_two_pow]
      simp [hk]
    · refine fb_ct_cong fun k hk => ?_
      rw [show 256 = 2 ^ 8 from rfl, Nat.testBit_div_two_pow, Nat.add_comm]
theorem p_R_s (f : Nat → Nat) (n t : Nat) : p_R f (n + 1) t = f (t % 256) + 256 * p_R f n (t / 256) := Nat.add_comm _ _
theorem p_sum_s (n t : Nat) : p_sum (n + 1) t = p_p (t % 256) + p_sum n (t / 256) := rfl
theorem p_q1 {a b : Nat} (h : a < 256) : (a + 256 * b) / 256 = b := by omega
theorem p_q2 {a b c : Nat} (h : a < 256) (h2 : b < 256) : (a + 256 * (b + 256 * c)) / 65536 = c := by omega
theorem p_q4 {a b c d e : Nat} (h : a < 256) (h2 : b < 256) (h3 : c < 256) (h4 : d < 256) : (a + 256 * (b + 256 * (c + 256 * (d + 256 * e)))) / 4294967296 = e := by
  rw [show 4294967296 = 65536 * 65536 from rfl, ← Nat.div_div_eq_div_mul, p_q2 h h2, p_q2 h3 h4]
theorem p_ad (a b x y : Nat) : (a + 256 * x) + (b + 256 * y) = (a + b) + 256 * (x + y) := by omega
theorem p_ad0 (a b x : Nat) : (a + 256 * x) + b = (a + b) + 256 * x := by omega
theorem p_md {a b x y : Nat} (h : a + b < 128) : ((a + 256 * x) + (b + 256 * y)) % 128 = a + b := by omega
theorem p_fold {p0 p1 p2 p3 p4 p5 p6 p7 : Nat} (h : p0 ≤ 8 ∧ p1 ≤ 8 ∧ p2 ≤ 8 ∧ p3 ≤ 8 ∧ p4 ≤ 8 ∧ p5 ≤ 8 ∧ p6 ≤ 8 ∧ p7 ≤ 8) {c : Nat} (hc : c = p0 + 256 * (p1 + 256 * (p2 + 256 * (p3 + 256 * (p4 + 256 * (p5 + 256 * (p6 + 256 * p7))))))) :
    ((c + c / 256 + (c + c / 256) / 65536) + (c + c / 256 + (c + c / 256) / 65536) / 4294967296) % 128 = p0 + p1 + p2 + p3 + p4 + p5 + p6 + p7 := by
  revert c
  obtain ⟨h0, h1, h2, h3, h4, h5, h6, h7⟩ := h
  have a0 : p0 < 256 := by omega
  have a1 : p0 + p1 < 256 := by omega
  have a2 : p1 + p2 < 256 := by omega
  have a3 : (p0 + p1) + (p2 + p3) < 256 := by omega
  have a4 : (p1 + p2) + (p3 + p4) < 256 := by omega
  have a5 : (p2 + p3) + (p4 + p5) < 256 := by omega
  have a6 : (p3 + p4) + (p5 + p6) < 256 := by omega
  have a7 : (p0 + p1) + (p2 + p3) + ((p4 + p5) + (p6 + p7)) < 128 := by omega
  have a8 : (p0 + p1) + (p2 + p3) + ((p4 + p5) + (p6 + p7)) = p0 + p1 + p2 + p3 + p4 + p5 + p6 + p7 := by omega
  rw [← a8]
  clear h0 h1 h2 h3 h4 h5 h6 h7 a8
  intro c hc
  have e1 : c / 256 = p1 + 256 * (p2 + 256 * (p3 + 256 * (p4 + 256 * (p5 + 256 * (p6 + 256 * p7))))) := by
    rw [hc]
    exact p_q1 a0
  generalize hd : c + c / 256 = d
  have e2 : d = (p0 + p1) + 256 * ((p1 + p2) + 256 * ((p2 + p3) + 256 * ((p3 + p4) + 256 * ((p4 + p5) + 256 * ((p5 + p6) + 256 * ((p6 + p7) + 256 * p7)))))) := by
    rw [← hd, e1, hc, p_ad, p_ad, p_ad, p_ad, p_ad, p_ad, p_ad0]
  have e3 : d / 65536 = (p2 + p3) + 256 * ((p3 + p4) + 256 * ((p4 + p5) + 256 * ((p5 + p6) + 256 * ((p6 + p7) + 256 * p7)))) := by
    rw [e2]
    exact p_q2 a1 a2
  generalize hf : d + d / 65536 = f
  have e4 : f = ((p0 + p1) + (p2 + p3)) + 256 * (((p1 + p2) + (p3 + p4)) + 256 * (((p2 + p3) + (p4 + p5)) + 256 * (((p3 + p4) + (p5 + p6)) + 256 * (((p4 + p5) + (p6 + p7)) + 256 * (((p5 + p6) + p7) + 256 * ((p6 + p7) + 256 * p7)))))) := by
    rw [← hf, e3, e2, p_ad, p_ad, p_ad, p_ad, p_ad, p_ad0]
  have e5 : f / 4294967296 = ((p4 + p5) + (p6 + p7)) + 256 * (((p5 + p6) + p7) + 256 * ((p6 + p7) + 256 * p7)) := by
    rw [e4]
    exact p_q4 a3 a4 a5 a6
  rw [e5, e4, p_md a7]
/-- how many bits of a long are set -/
def popc (t : Nat) : Nat := fb_ct (fun k => t.testBit k) 64
theorem popc_le (t : Nat) : popc t ≤ 64 := fb_ct_le _ _
theorem lN_sh {t k : Nat} (ht : t < 2 ^ 64) (hk : k < 64) : ((lN t).toUInt64 >>> ((nI k).toInt64.toUInt64 &&& Int64.toUInt64 63)).toInt64 = lN (t / 2 ^ k) := wb_shr ht hk
theorem p_swar {t : Nat} (ht : t < 2 ^ 64) : ∃ a b c : Nat, a = t - ((t / 2) &&& 6148914691236517205) ∧ a < 2 ^ 64 ∧ b = (a &&& 3689348814741910323) + ((a / 4) &&& 3689348814741910323) ∧ b < 2 ^ 63 - 2 ^ 60 ∧ c = ((b + b / 16) &&& 1085102592571150095) ∧ c < 2 ^ 60 ∧ ((t / 2) &&& 6148914691236517205) ≤ t ∧
    ((c + c / 256 + (c + c / 256) / 65536) + (c + c / 256 + (c + c / 256) / 65536) / 4294967296) % 128 = popc t := by
  have g1 := p_s1 8 t (by simpa using ht)
  have g2 := p_s2 p_f1 (fun b hb => (p_d1 b hb).1.1) 8 t
  have g3 := p_s3 (fun b => p_f2 (p_f1 b)) (fun b hb => ⟨(p_d4 b hb).1, (p_d4 b hb).2.1⟩) 8 t
  have k1 : p_mk 85 8 = 6148914691236517205 := by decide
  have k2 : p_mk 51 8 = 3689348814741910323 := by decide
  have k3 : p_mk 15 8 = 1085102592571150095 := by decide
  rw [k1] at g1
  rw [k2] at g2
  rw [k3] at g3
  have hle : ((t / 2) &&& 6148914691236517205) ≤ t := Nat.le_trans Nat.and_le_left (Nat.div_le_self _ _)
  have hb : ∀ j, p_p (t / 256 ^ j % 256) ≤ 8 := fun j => (p_d4 _ (Nat.mod_lt _ (by decide))).2.2.1
  have b2 : p_R (fun b => p_f2 (p_f1 b)) 8 t < 2 ^ 63 - 2 ^ 60 := by
    have q : ∀ n t, p_R (fun b => p_f2 (p_f1 b)) n t ≤ 68 * p_mk 1 n := by
      intro n
      induction n with
      | zero => intro t; exact Nat.le_refl _
      | succ n ih =>
        intro t
        have h1 := ih (t / 256)
        have h2 := (p_d4 (t % 256) (Nat.mod_lt _ (by decide))).2.1
        show 256 * p_R (fun b => p_f2 (p_f1 b)) n (t / 256) + p_f2 (p_f1 (t % 256)) ≤ 68 * (256 * p_mk 1 n + 1)
        omega
    exact Nat.lt_of_le_of_lt (q 8 t) (by decide)
  refine ⟨_, _, _, rfl, by omega, rfl, ?_, rfl, ?_, hle, ?_⟩
  · rw [g1, g2]
    exact b2
  · rw [g1, g2]
    exact Nat.lt_of_le_of_lt Nat.and_le_right (by decide)
  · rw [g1, g2, g3]
    refine (p_fold (p0 := p_p (t % 256)) (p1 := p_p (t / 256 % 256)) (p2 := p_p (t / 256 / 256 % 256)) (p3 := p_p (t / 256 / 256 / 256 % 256)) (p4 := p_p (t / 256 / 256 / 256 / 256 % 256)) (p5 := p_p (t / 256 / 256 / 256 / 256 / 256 % 256)) (p6 := p_p (t / 256 / 256 / 256 / 256 / 256 / 256 % 256)) (p7 := p_p (t / 256 / 256 / 256 / 256 / 256 / 256 / 256 % 256)) ?_ ?_).trans ?_
    · exact ⟨(p_d4 _ (Nat.mod_lt _ (by decide))).2.2.1, (p_d4 _ (Nat.mod_lt _ (by decide))).2.2.1, (p_d4 _ (Nat.mod_lt _ (by decide))).2.2.1, (p_d4 _ (Nat.mod_lt _ (by decide))).2.2.1, (p_d4 _ (Nat.mod_lt _ (by decide))).2.2.1, (p_d4 _ (Nat.mod_lt _ (by decide))).2.2.1, (p_d4 _ (Nat.mod_lt _ (by decide))).2.2.1, (p_d4 _ (Nat.mod_lt _ (by decide))).2.2.1⟩
    · rw [p_R_s, p_R_s, p_R_s, p_R_s, p_R_s, p_R_s, p_R_s, p_R_s]
      rfl
    · have e := p_sum_ct 8 t
      unfold popc
      rw [show 64 = 8 * 8 from rfl, ← e]
      rw [p_sum_s, p_sum_s, p_sum_s, p_sum_s, p_sum_s, p_sum_s, p_sum_s, p_sum_s]
      simp only [p_sum, Nat.add_zero, Nat.add_assoc]
theorem c_bitCountL (η : jj_H) (t : Nat) (ht : t < 2 ^ 64) : jj_Ht mJ13_bitCount_95d88 [.long (lN t)] η 0 0 (fun v η' => v = some (.int (nI (popc t))) ∧ η' = η) := by
  obtain ⟨a, b, c, ea, ha, eb, hb, ec, hc, hle, hp⟩ := p_swar ht
  have k1 : (6148914691236517205 : Int64) = lN 6148914691236517205 := rfl
  have k2 : (3689348814741910323 : Int64) = lN 3689348814741910323 := rfl
  have k3 : (1085102592571150095 : Int64) = lN 1085102592571150095 := rfl
  have s1 : lN t - (((lN t).toUInt64 >>> ((nI 1).toInt64.toUInt64 &&& Int64.toUInt64 63)).toInt64 &&& 6148914691236517205) = lN a := by
    rw [lN_sh ht (by omega), k1, fb_andL, lN_sub (by simpa using hle), ea]
  have s2 : (lN a &&& 3689348814741910323) + (((lN a).toUInt64 >>> ((nI 2).toInt64.toUInt64 &&& Int64.toUInt64 63)).toInt64 &&& 3689348814741910323) = lN b := by
    rw [lN_sh ha (by omega), k2, fb_andL, fb_andL, lN_add, eb]
  have s3 : (lN b + ((lN b).toUInt64 >>> ((nI 4).toInt64.toUInt64 &&& Int64.toUInt64 63)).toInt64) &&& 1085102592571150095 = lN c := by
    rw [lN_sh (by omega) (by omega), k3, lN_add, fb_andL, ec]
  have s4 : lN c + ((lN c).toUInt64 >>> ((nI 8).toInt64.toUInt64 &&& Int64.toUInt64 63)).toInt64 = lN (c + c / 256) := by
    rw [lN_sh (by omega) (by omega), lN_add]
  have s5 : lN (c + c / 256) + ((lN (c + c / 256)).toUInt64 >>> ((nI 16).toInt64.toUInt64 &&& Int64.toUInt64 63)).toInt64 = lN (c + c / 256 + (c + c / 256) / 65536) := by
    rw [lN_sh (by omega) (by omega), lN_add]
  have s6 : lN (c + c / 256 + (c + c / 256) / 65536) + ((lN (c + c / 256 + (c + c / 256) / 65536)).toUInt64 >>> ((nI 32).toInt64.toUInt64 &&& Int64.toUInt64 63)).toInt64 = lN ((c + c / 256 + (c + c / 256) / 65536) + (c + c / 256 + (c + c / 256) / 65536) / 4294967296) := by
    rw [lN_sh (by omega) (by omega), lN_add]
  refine jj_go tok_J13_bitCount_95d88 zok_J13 py_J13 rfl 80 fun J => ?_
  refine ⟨trivial, ⟨?_, rfl⟩, Nat.zero_le _, Nat.zero_le _⟩
  rw [s1, s2, s3, s4, s5, s6, lN_i, show nI 127 = nI (2 ^ 7 - 1) from rfl, fa_mask, show 2 ^ 7 = 128 from rfl, hp]
