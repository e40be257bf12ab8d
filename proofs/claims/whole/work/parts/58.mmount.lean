/-! THE CHECK's FACE: the album -/
theorem m_fin {Y : Nat → Nat} {σ : jj_S} {th : Int32} {η : jj_H} (h : m_rep Y σ th η) (t : Int32) : jj_Ht mX7_no [.ref (Y 0), .int t] (jj_up η (Y 0) (m_o Y σ 0)) 0 0 (m_P Y η σ t 0) := (c_no (h.th 0) t).mono (by rintro v η' ⟨rfl, rfl⟩; exact m_no h _)
theorem m_at_ok {Y : Nat → Nat} {σ : jj_S} {th : Int32} {η : jj_H} (h : m_rep Y σ th η) (ok : s_ok σ) (r c : Nat) (hr : r < 8) (hc : c < 8) : jj_Ht mX7_at_ [.ref (Y 0), .int (nI r), .int (nI c)] η 0 0 (m_P Y η σ 0 (oI (s_at σ (8 * r + c)))) := by
  have h' := h.th 0
  refine jj_go tok_X7_at_ zok_X7 py_7 rfl 60 fun J => ?_
  refine ⟨_, h.o, 0, 0, _, c_isIn0 _ (nI r) (nI 7) 8 rfl, Nat.zero_le _, Nat.zero_le _, fun v η' hv => ?_⟩
  obtain ⟨rfl, rfl⟩ := hv
  refine ⟨fun c1 => ?_, fun c1 => ⟨0, 0, _, c_isIn0 _ (nI c) (nI 7) 8 rfl, Nat.zero_le _, Nat.zero_le _, fun v η' hv => ?_⟩⟩
  · have c1 := b01_eq0 c1
    rw [jin_nI (by omega), decide_eq_false_iff_not] at c1
    exact absurd hr c1
  obtain ⟨rfl, rfl⟩ := hv
  refine ⟨fun c1 => ?_, fun c1 => ⟨_, h'.o, 0, 0, _, c_matX h' ok _ (8 * r + c) (ix8 r c) (by omega), Nat.zero_le _, Nat.zero_le _, fun v η' hv => ?_⟩⟩
  · have c1 := b01_eq0 c1
    rw [jin_nI (by omega), decide_eq_false_iff_not] at c1
    exact absurd hc c1
  obtain ⟨rfl, rfl⟩ := hv
  exact ⟨trivial, m_yes h n_fr.rf, Nat.zero_le _, Nat.zero_le _⟩
theorem m_at_x {Y : Nat → Nat} {σ : jj_S} {th : Int32} {η : jj_H} (h : m_rep Y σ th η) (r c : Int32) (hj : (jin r 8 && jin c 8) = false) : jj_Ht mX7_at_ [.ref (Y 0), .int r, .int c] η 0 0 (m_P Y η σ (nI 1) 0) := by
  have h' := h.th 0
  refine jj_go tok_X7_at_ zok_X7 py_7 rfl 60 fun J => ?_
  refine ⟨_, h.o, 0, 0, _, c_isIn0 _ r (nI 7) 8 rfl, Nat.zero_le _, Nat.zero_le _, fun v η' hv => ?_⟩
  obtain ⟨rfl, rfl⟩ := hv
  refine ⟨fun c1 => ⟨_, h'.o, 0, 0, _, m_fin h (nI 1), Nat.zero_le _, Nat.zero_le _, fun v η' hv => ?_⟩, fun c1 => ⟨0, 0, _, c_isIn0 _ c (nI 7) 8 rfl, Nat.zero_le _, Nat.zero_le _, fun v η' hv => ?_⟩⟩
  · have hv2 := hv
    obtain ⟨rfl, -⟩ := hv
    exact ⟨trivial, hv2, by decide, by decide⟩
  obtain ⟨rfl, rfl⟩ := hv
  refine ⟨fun c2 => ⟨_, h'.o, 0, 0, _, m_fin h (nI 1), Nat.zero_le _, Nat.zero_le _, fun v η' hv => ?_⟩, fun c2 => ?_⟩
  · have hv2 := hv
    obtain ⟨rfl, -⟩ := hv
    exact ⟨trivial, hv2, by decide, by decide⟩
  · rw [b01_ne0 c1, b01_ne0 c2] at hj
    cases hj
/-- another place for a stamp -/
theorem m_rep.mnt {Y : Nat → Nat} {σ : jj_S} {th : Int32} {η : jj_H} (h : m_rep Y σ th η) (k v : Nat) : m_rep Y (s_up σ 11 k v) th (jj_up η (Y 12) (x_i 40 (upd (fun j => mI (σ 11 j)) k (mI v)))) := by
  obtain ⟨d, z, h0, h1, h2, h3, h4, h5, h6, h7, h8, h9, h10, h11, h12⟩ := h
  have n : ∀ i, i < 12 → Y i ≠ Y 12 := fun i hi => d i 12 (by omega) (by decide) (by omega)
  refine ⟨d, z, (up_n (n 0 (by decide))).trans h0, (up_n (n 1 (by decide))).trans h1, (up_n (n 2 (by decide))).trans h2, (up_n (n 3 (by decide))).trans h3, (up_n (n 4 (by decide))).trans h4, (up_n (n 5 (by decide))).trans h5, (up_n (n 6 (by decide))).trans h6, (up_n (n 7 (by decide))).trans h7, (up_n (n 8 (by decide))).trans h8, (up_n (n 9 (by decide))).trans h9, (up_n (n 10 (by decide))).trans h10, (up_n (n 11 (by decide))).trans h11, up_s.trans ?_⟩
  rw [show upd (fun j => mI (σ 11 j)) k (mI v) = fun j => mI (s_up σ 11 k v 11 j) from funext fun j => by
    by_cases z : j = k
    · rw [z, pk_us, s_up_s]
    · rw [pk_un z, s_up_n _ _ _ z]]
theorem m_release_ok {Y : Nat → Nat} {σ : jj_S} {th : Int32} {η : jj_H} (h : m_rep Y σ th η) (ok : s_ok σ) (k q : Nat) (hk : k < σ 12 3) (hm : σ 11 k = q + 1) : jj_Ht mX7_release [.ref (Y 0), .int (nI k)] η 0 0 (m_P Y η (s_up σ 11 k 0) 0 (nI q)) := by
  have hn := ok.1.2.2.2
  have h' := h.th 0
  obtain ⟨-, -, h0, h1, h2, h3, h4, h5, h6, h7, h8, h9, h10, h11, h12⟩ := id h'
  have h64 := (ok.2.2.2.2.1 k hk).2.2.2.1
  have em : mI (σ 11 k) = nI q := by rw [hm, mI_s]
  refine jj_go tok_X7_release zok_X7 py_7 rfl 60 fun J => ?_
  refine ⟨_, h.o, _, h0, 0, 0, _, c_isStamp h' (nI k) hn, Nat.zero_le _, Nat.zero_le _, fun v η' hv => ?_⟩
  obtain ⟨rfl, rfl⟩ := hv
  refine ⟨fun c1 => ?_, fun c1 => ?_⟩
  · refine ⟨_, h0, _, _, k, h12, rfl, by omega, fun c2 => ⟨_, h0, _, _, k, h12, rfl, by omega, ?_⟩, fun c2 => ?_⟩
    · refine ⟨_, h0, _, _, k, h12, rfl, by omega, trivial, ⟨by rw [em], h'.mnt k 0, (m_fr.rf.y 0 (by decide)).y 12 (by decide)⟩, Nat.zero_le _, Nat.zero_le _⟩
    · rw [cb_ne, im1, em, iN (by omega)] at c2
      omega
  · have c1 := b01_eq0 (Classical.not_not.mp c1)
    rw [jin_nI (by omega), decide_eq_false_iff_not] at c1
    exact absurd hk c1
theorem m_release_x1 {Y : Nat → Nat} {σ : jj_S} {th : Int32} {η : jj_H} (h : m_rep Y σ th η) (ok : s_ok σ) (k : Int32) (hk : jin k (σ 12 3) = false) : jj_Ht mX7_release [.ref (Y 0), .int k] η 0 0 (m_P Y η σ (nI 1) 0) := by
  have hn := ok.1.2.2.2
  have h' := h.th 0
  refine jj_go tok_X7_release zok_X7 py_7 rfl 60 fun J => ?_
  refine ⟨_, h.o, _, h'.o, 0, 0, _, c_isStamp h' k hn, Nat.zero_le _, Nat.zero_le _, fun v η' hv => ?_⟩
  obtain ⟨rfl, rfl⟩ := hv
  refine ⟨fun c1 => absurd (b01_ne0 c1) (by rw [hk]; decide), fun c1 => ⟨_, h'.o, 0, 0, _, m_fin h (nI 1), Nat.zero_le _, Nat.zero_le _, fun v η' hv => ?_⟩⟩
  have hv2 := hv
  obtain ⟨rfl, -⟩ := hv
  exact ⟨trivial, hv2, by decide, by decide⟩
theorem m_release_x2 {Y : Nat → Nat} {σ : jj_S} {th : Int32} {η : jj_H} (h : m_rep Y σ th η) (ok : s_ok σ) (k : Nat) (hk : k < σ 12 3) (hm : σ 11 k = 0) : jj_Ht mX7_release [.ref (Y 0), .int (nI k)] η 0 0 (m_P Y η σ (nI 2) 0) := by
  have hn := ok.1.2.2.2
  have h' := h.th 0
  obtain ⟨-, -, h0, h1, h2, h3, h4, h5, h6, h7, h8, h9, h10, h11, h12⟩ := id h'
  have em : mI (σ 11 k) = -1 := by rw [hm]; rfl
  refine jj_go tok_X7_release zok_X7 py_7 rfl 60 fun J => ?_
  refine ⟨_, h.o, _, h0, 0, 0, _, c_isStamp h' (nI k) hn, Nat.zero_le _, Nat.zero_le _, fun v η' hv => ?_⟩
  obtain ⟨rfl, rfl⟩ := hv
  refine ⟨fun c1 => ?_, fun c1 => ?_⟩
  · refine ⟨_, h0, _, _, k, h12, rfl, by omega, fun c2 => absurd em c2, fun c2 => ⟨_, h0, 0, 0, _, m_fin h (nI 2), Nat.zero_le _, Nat.zero_le _, fun v η' hv => ?_⟩⟩
    have hv2 := hv
    obtain ⟨rfl, -⟩ := hv
    exact ⟨trivial, hv2, by decide, by decide⟩
  · have c1 := b01_eq0 (Classical.not_not.mp c1)
    rw [jin_nI (by omega), decide_eq_false_iff_not] at c1
    exact absurd hk c1
theorem s_up_self (σ : jj_S) (f i : Nat) : s_up σ f i (σ f i) = σ := by
  funext g j
  unfold s_up
  cases h : Nat.beq g f && Nat.beq j i with
  | false => rfl
  | true =>
    rw [Bool.and_eq_true] at h
    rw [Nat.eq_of_beq_eq_true h.1, Nat.eq_of_beq_eq_true h.2]
    rfl
/-- a mounted stamp doesn't stand beside its own place -/
theorem s_bs_c {σ : jj_S} {k r c v : Nat} (h : ∀ d, s_nb (s_up σ 11 k v) r c d = s_nb σ r c d) : ∀ n, s_bs (s_up σ 11 k v) k r c n = s_bs σ k r c n
  | 0 => rfl
  | n + 1 => by
    unfold s_bs
    rw [s_bs_c h n, h n]
    rfl
theorem s_atn_c {σ : jj_S} {k v q : Nat} (hq : v ≠ q + 1) (h0 : σ 11 k ≠ q + 1) : ∀ n, s_atn (s_up σ 11 k v) q n = s_atn σ q n
  | 0 => rfl
  | n + 1 => by
    show (if s_up σ 11 k v 11 n = q + 1 then some n else s_atn (s_up σ 11 k v) q n) = if σ 11 n = q + 1 then some n else s_atn σ q n
    rw [s_atn_c hq h0 n]
    by_cases z : n = k
    · rw [z, s_up_s, if_neg hq, if_neg h0]
    · rw [s_up_n _ _ _ z]
theorem s_nb_c {σ : jj_S} {k r c d : Nat} (hr : r < 8) (hc : c < 8) (h0 : σ 11 k = 0) : s_nb (s_up σ 11 k (8 * r + c + 1)) r c d = s_nb σ r c d := by
  unfold s_nb
  cases hb : s_bp r c d with
  | none => rfl
  | some q =>
    show s_atn _ q _ = s_atn _ q _
    refine s_atn_c (fun e => ?_) (by omega) _
    have e : 8 * r + c = q := by omega
    unfold s_bp at hb
    split at hb <;> split at hb <;> first | (cases hb; done) | (cases hb; omega)
theorem m_mount_ok {Y : Nat → Nat} {σ : jj_S} {th : Int32} {η : jj_H} (h : m_rep Y σ th η) (ok : s_ok σ) (k r c b : Nat) (ok2 : s_ok (s_up σ 11 k (8 * r + c + 1))) (hk : k < σ 12 3) (hr : r < 8) (hc : c < 8) (hm : σ 11 k = 0) (hn : s_at σ (8 * r + c) = none) (hb : s_bs σ k r c 4 = some b) : jj_Ht mX7_mount [.ref (Y 0), .int (nI k), .int (nI r), .int (nI c)] η 0 0 (m_P Y η (s_up σ 11 k (8 * r + c + 1)) 0 (nI b)) := by
  have hn40 := ok.1.2.2.2
  have h' := h.th 0
  have hm' := h'.mnt k (8 * r + c + 1)
  obtain ⟨-, -, h0, h1, h2, h3, h4, h5, h6, h7, h8, h9, h10, h11, h12⟩ := id h'
  have em : mI (σ 11 k) = -1 := by rw [hm]; rfl
  have dv : (8 * r + c) / 8 = r := by omega
  have md : (8 * r + c) % 8 = c := by omega
  have b4 := s_bs_le hb
  have cb1 := c_besides h' ok k (8 * r + c) hk (by omega)
  rw [dv, md, hb, ← ix8] at cb1
  have cb2 := c_besides hm' ok2 k (8 * r + c) hk (by omega)
  rw [dv, md, s_bs_c (fun d => s_nb_c hr hc hm), hb, ← ix8, mI_s, ← ix8] at cb2
  refine jj_go tok_X7_mount zok_X7 py_7 rfl 90 fun J => ?_
  refine ⟨_, h.o, _, h0, 0, 0, _, c_isStamp h' (nI k) hn40, Nat.zero_le _, Nat.zero_le _, fun v η' hv => ?_⟩
  obtain ⟨rfl, rfl⟩ := hv
  refine ⟨fun c1 => ⟨0, 0, _, c_isIn0 _ (nI r) (nI 7) 8 rfl, Nat.zero_le _, Nat.zero_le _, fun v η' hv => ?_⟩, fun c1 => ?_⟩
  · obtain ⟨rfl, rfl⟩ := hv
    refine ⟨fun c1 => ?_, fun c1 => ⟨0, 0, _, c_isIn0 _ (nI c) (nI 7) 8 rfl, Nat.zero_le _, Nat.zero_le _, fun v η' hv => ?_⟩⟩
    · have c1 := b01_eq0 c1
      rw [jin_nI (by omega), decide_eq_false_iff_not] at c1
      exact absurd hr c1
    obtain ⟨rfl, rfl⟩ := hv
    refine ⟨fun c1 => ?_, fun c1 => ?_⟩
    · refine ⟨_, h0, _, _, k, h12, rfl, by omega, fun c2 => absurd em c2, fun c2 => ?_⟩
      refine ⟨_, h0, 0, 0, _, c_matX h' ok _ (8 * r + c) (ix8 r c) (by omega), Nat.zero_le _, Nat.zero_le _, fun v η' hv => ?_⟩
      obtain ⟨rfl, rfl⟩ := hv
      refine ⟨fun c3 => ?_, fun c3 => ?_⟩
      · rw [hn] at c3
        exact absurd rfl c3
      refine ⟨_, h0, 0, 0, _, cb1, Nat.zero_le _, Nat.zero_le _, fun v η' hv => ?_⟩
      obtain ⟨rfl, rfl⟩ := hv
      refine ⟨fun c4 => ?_, fun c4 => ?_⟩
      · refine ⟨_, h0, _, _, k, h12, rfl, by omega, ?_⟩
        rw [mI_s, ← ix8] at hm'
        refine ⟨_, hm'.o, 0, 0, _, cb2, Nat.zero_le _, Nat.zero_le _, fun v η' hv => ?_⟩
        obtain ⟨rfl, rfl⟩ := hv
        exact ⟨trivial, ⟨rfl, hm', (m_fr.rf.y 0 (by decide)).y 12 (by decide)⟩, Nat.zero_le _, Nat.zero_le _⟩
      · rw [cb_ne, show oI (some b) = nI b from rfl, im1, iN (by omega)] at c4
        omega
    · have c1 := b01_eq0 (Classical.not_not.mp c1)
      rw [jin_nI (by omega), decide_eq_false_iff_not] at c1
      exact absurd hc c1
  · have c1 := b01_eq0 (Classical.not_not.mp c1)
    rw [jin_nI (by omega), decide_eq_false_iff_not] at c1
    exact absurd hk c1
theorem m_mount_x1 {Y : Nat → Nat} {σ : jj_S} {th : Int32} {η : jj_H} (h : m_rep Y σ th η) (ok : s_ok σ) (k r c : Int32) (hk : jin k (σ 12 3) = false) : jj_Ht mX7_mount [.ref (Y 0), .int k, .int r, .int c] η 0 0 (m_P Y η σ (nI 1) 0) := by
  have hn := ok.1.2.2.2
  have h' := h.th 0
  refine jj_go tok_X7_mount zok_X7 py_7 rfl 60 fun J => ?_
  refine ⟨_, h.o, _, h'.o, 0, 0, _, c_isStamp h' k hn, Nat.zero_le _, Nat.zero_le _, fun v η' hv => ?_⟩
  obtain ⟨rfl, rfl⟩ := hv
  refine ⟨fun c1 => absurd (b01_ne0 c1) (by rw [hk]; decide), fun c1 => ⟨_, h'.o, 0, 0, _, m_fin h (nI 1), Nat.zero_le _, Nat.zero_le _, fun v η' hv => ?_⟩⟩
  have hv2 := hv
  obtain ⟨rfl, -⟩ := hv
  exact ⟨trivial, hv2, by decide, by decide⟩
theorem m_mount_x2 {Y : Nat → Nat} {σ : jj_S} {th : Int32} {η : jj_H} (h : m_rep Y σ th η) (ok : s_ok σ) (k : Nat) (r c : Int32) (hk : k < σ 12 3) (hj : (jin r 8 && jin c 8) = false) : jj_Ht mX7_mount [.ref (Y 0), .int (nI k), .int r, .int c] η 0 0 (m_P Y η σ (nI 2) 0) := by
  have hn := ok.1.2.2.2
  have h' := h.th 0
  refine jj_go tok_X7_mount zok_X7 py_7 rfl 60 fun J => ?_
  refine ⟨_, h.o, _, h'.o, 0, 0, _, c_isStamp h' (nI k) hn, Nat.zero_le _, Nat.zero_le _, fun v η' hv => ?_⟩
  obtain ⟨rfl, rfl⟩ := hv
  refine ⟨fun c1 => ⟨0, 0, _, c_isIn0 _ r (nI 7) 8 rfl, Nat.zero_le _, Nat.zero_le _, fun v η' hv => ?_⟩, fun c1 => ?_⟩
  · obtain ⟨rfl, rfl⟩ := hv
    refine ⟨fun c1 => ⟨_, h'.o, 0, 0, _, m_fin h (nI 2), Nat.zero_le _, Nat.zero_le _, fun v η' hv => ?_⟩, fun c1 => ⟨0, 0, _, c_isIn0 _ c (nI 7) 8 rfl, Nat.zero_le _, Nat.zero_le _, fun v η' hv => ?_⟩⟩
    · have hv2 := hv
      obtain ⟨rfl, -⟩ := hv
      exact ⟨trivial, hv2, by decide, by decide⟩
    obtain ⟨rfl, rfl⟩ := hv
    refine ⟨fun c2 => ?_, fun c2 => ⟨_, h'.o, 0, 0, _, m_fin h (nI 2), Nat.zero_le _, Nat.zero_le _, fun v η' hv => ?_⟩⟩
    · rw [b01_ne0 c1, b01_ne0 c2] at hj
      cases hj
    · have hv2 := hv
      obtain ⟨rfl, -⟩ := hv
      exact ⟨trivial, hv2, by decide, by decide⟩
  · have c1 := b01_eq0 (Classical.not_not.mp c1)
    rw [jin_nI (by omega), decide_eq_false_iff_not] at c1
    exact absurd hk c1
theorem m_mount_x3 {Y : Nat → Nat} {σ : jj_S} {th : Int32} {η : jj_H} (h : m_rep Y σ th η) (ok : s_ok σ) (k r c : Nat) (hk : k < σ 12 3) (hr : r < 8) (hc : c < 8) (hx : σ 11 k ≠ 0 ∨ s_at σ (8 * r + c) ≠ none ∨ s_bs σ k r c 4 = none) : jj_Ht mX7_mount [.ref (Y 0), .int (nI k), .int (nI r), .int (nI c)] η 0 0 (m_P Y η σ (nI 3) 0) := by
  have hn40 := ok.1.2.2.2
  have h' := h.th 0
  obtain ⟨-, -, h0, h1, h2, h3, h4, h5, h6, h7, h8, h9, h10, h11, h12⟩ := id h'
  have h64 := (ok.2.2.2.2.1 k hk).2.2.2.1
  have dv : (8 * r + c) / 8 = r := by omega
  have md : (8 * r + c) % 8 = c := by omega
  have cb1 := c_besides h' ok k (8 * r + c) hk (by omega)
  rw [dv, md, ← ix8] at cb1
  refine jj_go tok_X7_mount zok_X7 py_7 rfl 90 fun J => ?_
  refine ⟨_, h.o, _, h0, 0, 0, _, c_isStamp h' (nI k) hn40, Nat.zero_le _, Nat.zero_le _, fun v η' hv => ?_⟩
  obtain ⟨rfl, rfl⟩ := hv
  refine ⟨fun c1 => ⟨0, 0, _, c_isIn0 _ (nI r) (nI 7) 8 rfl, Nat.zero_le _, Nat.zero_le _, fun v η' hv => ?_⟩, fun c1 => ?_⟩
  · obtain ⟨rfl, rfl⟩ := hv
    refine ⟨fun c1 => ?_, fun c1 => ⟨0, 0, _, c_isIn0 _ (nI c) (nI 7) 8 rfl, Nat.zero_le _, Nat.zero_le _, fun v η' hv => ?_⟩⟩
    · have c1 := b01_eq0 c1
      rw [jin_nI (by omega), decide_eq_false_iff_not] at c1
      exact absurd hr c1
    obtain ⟨rfl, rfl⟩ := hv
    refine ⟨fun c1 => ?_, fun c1 => ?_⟩
    · refine ⟨_, h0, _, _, k, h12, rfl, by omega, fun c2 => ⟨_, h0, 0, 0, _, m_fin h (nI 3), Nat.zero_le _, Nat.zero_le _, fun v η' hv => ?_⟩, fun c2 => ?_⟩
      · have hv2 := hv
        obtain ⟨rfl, -⟩ := hv
        exact ⟨trivial, hv2, by decide, by decide⟩
      have c2 : σ 11 k = 0 := (mI_m1 h64).mp (Classical.not_not.mp c2)
      refine ⟨_, h0, 0, 0, _, c_matX h' ok _ (8 * r + c) (ix8 r c) (by omega), Nat.zero_le _, Nat.zero_le _, fun v η' hv => ?_⟩
      obtain ⟨rfl, rfl⟩ := hv
      refine ⟨fun c3 => ⟨_, h0, 0, 0, _, m_fin h (nI 3), Nat.zero_le _, Nat.zero_le _, fun v η' hv => ?_⟩, fun c3 => ?_⟩
      · have hv2 := hv
        obtain ⟨rfl, -⟩ := hv
        exact ⟨trivial, hv2, by decide, by decide⟩
      rw [cb_ne, im1, oI_m1 (fun j hj => by have := s_at_lt hj; omega), Classical.not_not] at c3
      refine ⟨_, h0, 0, 0, _, cb1, Nat.zero_le _, Nat.zero_le _, fun v η' hv => ?_⟩
      obtain ⟨rfl, rfl⟩ := hv
      refine ⟨fun c4 => ?_, fun c4 => ⟨_, h0, 0, 0, _, m_fin h (nI 3), Nat.zero_le _, Nat.zero_le _, fun v η' hv => ?_⟩⟩
      · rw [cb_ne, im1, oI_m1 (fun j hj => by have := s_bs_le hj; omega)] at c4
        rcases hx with hx | hx | hx
        · exact absurd c2 hx
        · exact absurd c3 hx
        · exact absurd hx c4
      · have hv2 := hv
        obtain ⟨rfl, -⟩ := hv
        exact ⟨trivial, hv2, by decide, by decide⟩
    · have c1 := b01_eq0 (Classical.not_not.mp c1)
      rw [jin_nI (by omega), decide_eq_false_iff_not] at c1
      exact absurd hc c1
  · have c1 := b01_eq0 (Classical.not_not.mp c1)
    rw [jin_nI (by omega), decide_eq_false_iff_not] at c1
    exact absurd hk c1
