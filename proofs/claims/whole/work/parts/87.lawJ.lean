/-! THE LAW's JUDGEMENT -/
abbrev jj_Sd (M : jj_M) (b L : Nat) (xs : Nat → Int32) (J : jj_K) : Prop := ∀ {η : jj_H} {k n pc : Nat} {ls : jj_L} {st : List Value} {i : Int32}, decode (jj_code M) pc = .ok (.iaload, 1) → vp_in i L → J η k n (pc + 1) ls (.int (xs i.toNatClampNeg) :: st) → J η k n pc ls (.int i :: .ref b :: st)
abbrev jj_Sn (M : jj_M) (b L : Nat) (J : jj_K) : Prop := ∀ {η : jj_H} {k n pc : Nat} {ls : jj_L} {st : List Value}, decode (jj_code M) pc = .ok (.arraylength, 1) → J η k n (pc + 1) ls (.int (Int32.ofNat L) :: st) → J η k n pc ls (.ref b :: st)
/-- a call of a method with handlers -/
abbrev jj_Sc (M : jj_M) (RC RS : Nat) (J : jj_K) : Prop := ∀ {M' : jj_M} {hh : jj_HH} {pc index : Nat} (_ : decode (jj_code M) pc = .ok (.invokestatic index, 3)) (_ : Cond.methodLink (jj_nm M).cls index (jj_nm M') ∈ jj_G) (_ : jj_MokH M' hh) (_ : jj_room M M' = true)
    {as rest : List Value} {η : jj_H} {k n : Nat} {ls : jj_L} {st : List Value} (_ : st = as.reverse ++ rest) (_ : as.length = jj_np M') (_ : Nat.ble (jj_sum rest) 8 = true) {mc ms : Nat} {post' : Option Value → jj_H → Prop} (_ : jj_HtH M' hh as η mc ms post') (_ : k + mc ≤ RC) (_ : n + ms ≤ RS)
    (_ : ∀ v η', post' v η' → J η' (k + mc) (n + ms) (pc + 3) ls (jj_pu v rest)), J η k n pc ls st
theorem jj_sd {M : jj_M} {RC RS : Nat} {p : Program} {l : Launch} {e : Env} {R : Room} {s : State} {m : MethodId} {args : Array Value} {below : List Frame} {meth : Method} {c : Code} {Q : State → Prop} {D : va_G} {tyc : Nat → ClassId} {A : Nat → Prop}
    (hC : jj_Cx M RC RS (p, l, e, R, s, m, args, below, meth, c, Q, D, tyc, A)) {b L : Nat} {xs : Nat → Int32} (hX : va_X b L xs s s.heap) (hbl : b < s.heap.size) (hbA : ¬ A b) : jj_Sd M b L xs (jj_J (p, l, e, R, s, m, args, below, meth, c, Q, D, tyc, A)) ∧ jj_Sn M b L (jj_J (p, l, e, R, s, m, args, below, meth, c, Q, D, tyc, A)) := by
  obtain ⟨hx, hb, -⟩ := hC
  refine ⟨?_, ?_⟩
  · intro η k n pc ls st i hd hin h ws H locs lsA hi hP hD hS hl
    exact va_sld hx hb hX hbl hbA hS hin hd (h ws H locs lsA hi hP hD hS hl)
  · intro η k n pc ls st hd h ws H locs lsA hi hP hD hS hl
    exact va_slen hx hb hX hbl hbA hS hd (h ws H locs lsA hi hP hD hS hl)
theorem jj_sc {M : jj_M} {RC RS : Nat} {x : jj_X} (hC : jj_Cx M RC RS x) : jj_Sc M RC RS (jj_J x) :=
  fun {_ _ _ _} hd hlk hMok hr {_ _ _ _ _ _ _} hst hlen hsum {_ _ _} hc h1 h2 kk => jj_callH hC hd hlk hMok hr hst hlen hsum hc h1 h2 kk
/-- all that the law's walk takes of its judgement -/
def lw_J (RC RS b L : Nat) (xs : Nat → Int32) (J : jj_K) : Prop := jj_Rn2 zL tL_law RC RS J ∧ jj_Sd mL_law b L xs J ∧ jj_Sn mL_law b L J ∧ jj_Sc mL_law RC RS J ∧
  (∀ {η : jj_H} {k n k' n' pc : Nat} {ls : jj_L} {st : List Value}, k ≤ k' → n ≤ n' → J η k' n' pc ls st → J η k n pc ls st) ∧
  ∀ {η : jj_H} {k n : Nat} {ls : jj_L}, k ≤ RC → n ≤ RS → J η k n 1419 ls [.int 1]
theorem w_in {j w L : Nat} (hL : L ≤ 3584) (h : j + w < L) : vp_in (nI j + nI w) L := by
  rw [nI_add]
  unfold vp_in
  have e1 : (nI (j + w)).toInt = ((j + w : Nat) : Int) := iN (by omega)
  have e2 : (nI (j + w)).toNatClampNeg = j + w := by
    show (nI (j + w)).toInt.toNat = j + w
    rw [e1]
    exact Int.toNat_natCast _
  rw [e2, i_lt, e1]
  rintro (h1 | h1)
  · have : (0 : Int32).toInt = 0 := rfl
    omega
  · omega
theorem w_in0 {j L : Nat} (hL : L ≤ 3584) (h : j < L) : vp_in (nI j) L := by
  have := w_in (j := j) (w := 0) hL (by omega)
  rw [nI_add] at this
  exact this
/-- what stands at the loop's head, and what is left of the room -/
def lw_H (b L : Nat) (X Y : Nat → Nat) (q C S : Nat) (J : jj_K) (pc j : Nat) : Prop := ∀ (η : jj_H) (k n : Nat) (σ : jj_S) (th : Int32) (f : Nat → Int64), w_I X Y q σ th f η → k ≤ C → n ≤ S → J η k n pc [(0, .ref b), (1, .ref (X 0)), (2, .ref (Y 0)), (3, .ref q), (4, .int (nI (7 * j)))] []
theorem lg_same (x : Int64) : lg_cmp x x = 0 := by
  unfold lg_cmp
  rw [if_neg (by show ¬ x < x; rw [fa_lt64]; omega), if_pos rfl]
