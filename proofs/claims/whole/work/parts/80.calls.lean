/-! THE LAW's OWN METHODS: bodies with handlers, calls of them, throws that they catch -/
abbrev jj_HH : Type := List (Nat × Nat × Nat × Nat)
def jj_wdH (M : jj_M) (hh : jj_HH) : List Cond := .codeWith (jj_nm M) (jj_code M) (jj_mx M) (jj_ret M) hh :: jj_G
def jj_HtH (M : jj_M) (hh : jj_HH) (as : List Value) (η : jj_H) (mc ms : Nat) (post : Option Value → jj_H → Prop) : Prop :=
  ∀ (l : Launch) (D : va_G) (tyc : Nat → ClassId) (sz : Nat) (ws : va_W), l.stackTraces = false → jj_is η ws →
    Met l (jj_nm M) (jj_wdH M hh) (jj_rm M mc ms) (va_Pc as (jj_B D tyc ws sz)) (jj_Q D tyc (va_A (jj_ws tyc ws) sz) post) mc ms (va_A (jj_ws tyc ws) sz)
def jj_MokH (M : jj_M) (hh : jj_HH) : Prop := Cond.codeWith (jj_nm M) (jj_code M) (jj_mx M) (jj_ret M) hh ∈ jj_G ∧ Cond.initialized (jj_nm M).cls ∈ jj_G ∧ Cond.static (jj_nm M) ∈ jj_G ∧ ((jj_nm M).cls ≠ "java/lang/invoke/MethodHandle" ∧ (jj_nm M).cls ≠ "java/lang/invoke/VarHandle" ∧ (parseMethodDescriptor (jj_nm M).desc).map (fun d => d.parameters.length) = some (jj_np M))
/-- the method's table of handlers -/
def jj_Tb (hh : jj_HH) (x : jj_X) : Prop := match x with
  | (_, _, _, _, _, _, _, _, _, c, _, _, _, _) => c.exceptionTable.toList = tableOf hh
theorem jj_wdH_good {M : jj_M} {hh : jj_HH} (h : jj_MokH M hh) : GoodIn jj_G (jj_wdH M hh) := by
  intro w hw
  rcases List.mem_cons.mp hw with rfl | hw
  · exact jj_GoodG _ h.1
  · exact jj_GoodG _ hw
theorem jj_HtH.of {M : jj_M} {hh : jj_HH} {as : List Value} {η : jj_H} {mc ms : Nat} {post : Option Value → jj_H → Prop} (hy : plainName (jj_nm M).cls = true) (hn : (lg_sl as).length ≤ jj_mx M)
    (body : ∀ x, jj_Cx M mc ms x → jj_Tb hh x → jj_En post (fun _ _ => False) x → jj_J x η 0 0 0 (lv_args 0 as) []) : jj_HtH M hh as η mc ms post := by
  intro l D tyc sz ws hl hi
  have hM : vx_Met l (jj_nm M) (jj_wdH M hh) (jj_rm M mc ms) (va_Pc as (jj_B D tyc ws sz)) (jj_Q D tyc (va_A (jj_ws tyc ws) sz) post) (jj_XC D tyc (va_A (jj_ws tyc ws) sz) η (fun _ => False)) mc ms (va_A (jj_ws tyc ws) sz) := by
    refine vx_ofWH (cc := jj_code M) (maxL := jj_mx M) (ret := jj_ret M) (hh := hh) hy rfl ?_
    intro p e s m args below meth c s₁ B hml hv
    obtain ⟨rfl, hsz, hP, hK, hD0, hW⟩ := hv
    have hts := atoms_spec (ws := jj_wdH M hh) B.pre
    have hown : s.vm.findClass (jj_nm M).cls = some m.cls := findClass_of_methodNamed B.named
    have htab : c.exceptionTable.toList = tableOf hh := vx_table (x := jj_nm M) B (hts _ List.mem_cons_self)
    subst hsz
    have hD := hD0.self (sz := s.heap.size)
    have hl9 := lv_entry as hn
    rw [lg_entry_eq]
    have hb := body (p, l, e, (headSpec (jj_wdH M hh) (jj_rm M mc ms)).room, s, m, as.toArray, below, meth, c, vx_MQ below (jj_Q D tyc (va_A (jj_ws tyc ws) s.heap.size) post) (jj_XC D tyc (va_A (jj_ws tyc ws) s.heap.size) η (fun _ => False)) as.toArray s mc ms (va_A (jj_ws tyc ws) s.heap.size), D, tyc, va_A (jj_ws tyc ws) s.heap.size)
      ⟨B.exec, B.bytes, hml, hown, fun w hw => hts w (List.mem_cons_of_mem _ hw), B.notSynchronized, B.returns, (name_of_methodNamed B.named B.method).1, rfl, rfl, rfl, rfl, hK, fun q h => Or.inr h, hW, hl⟩ htab
      ⟨η, fun _ => False, rfl, fun η' E h => h.elim⟩
    exact hb ws s.heap [] _ hi hP hD va_S.rf (by rw [hml]; exact hl9)
  refine MetFree.mono hM (fun _ _ q => q) (fun _ _ _ _ _ q => q) ?_
  intro a s o t _ hq
  rcases hq with h1 | ⟨q, e, E, ce, L, ⟨⟨g1, g2⟩, g3⟩, g4⟩
  · exact h1
  · exact g1.elim
/-- a call of such a method -/
theorem jj_callH {M M' : jj_M} {hh : jj_HH} {RC RS : Nat} {x : jj_X} (hC : jj_Cx M RC RS x) {pc index : Nat} (hd : decode (jj_code M) pc = .ok (.invokestatic index, 3)) (hlk : Cond.methodLink (jj_nm M).cls index (jj_nm M') ∈ jj_G) (hMok : jj_MokH M' hh) (hr : jj_room M M' = true)
    {as rest : List Value} {η : jj_H} {k n : Nat} {ls : jj_L} {st : List Value} (hst : st = as.reverse ++ rest) (hlen : as.length = jj_np M') (hsum : Nat.ble (jj_sum rest) 8 = true) {mc ms : Nat} {post' : Option Value → jj_H → Prop} (hc : jj_HtH M' hh as η mc ms post') (h1 : k + mc ≤ RC) (h2 : n + ms ≤ RS)
    (kk : ∀ v η', post' v η' → jj_J x η' (k + mc) (n + ms) (pc + 3) ls (jj_pu v rest)) : jj_J x η k n pc ls st := by
  subst hst
  obtain ⟨p, l, e, R, s, m, args, below, meth, c, Q, D, tyc, A⟩ := x
  obtain ⟨hx, hb, hml, hown, hts, hlocks, hrt, hin, hfr, hlo, hRC, hRS, hKK, hA, hWd, hst⟩ := hC
  obtain ⟨q1, q2⟩ := jj_room_ok hr
  intro ws H locs lsA hi hP hD hS hl
  have hM := hc l D tyc H.size ws hst hi
  have hp := jj_pre (as := as) hP hD hS hA hKK hWd
  have hsum : (rest.map fun v => v.category).sum ≤ 8 := by rw [jj_sum_eq]; exact Nat.le_of_ble_eq_true hsum
  refine jj_back (D := D) (mc := mc) (ms := ms) hD hS hA hl ?_ kk
  exact vx_runSW (hh := hh) (As := as) (rest := rest) ⟨hx, hb, rfl, hown, hts⟩ hM ⟨⟨rfl, rfl, by rw [hfr]; exact q1, by rw [hlo]; exact q2, pay_in hts (jj_wdH_good hMok), List.mem_cons_self⟩, hts _ hMok.1, hts _ hMok.2.1, ⟨hMok.2.2.2.1, hMok.2.2.2.2.1⟩, (fun sig h => by
    have h2 := hMok.2.2.2.2.2
    rw [h] at h2
    exact (Option.some.inj h2).symm), hts _ hlk, hts _ hMok.2.2.1⟩ hp rfl hlen hl.1 rfl (lv_room hsum) hd ⟨by rw [hRC]; exact h1, by rw [hRS]; exact h2⟩
/-- a call that throws, caught by the row z of the table -/
theorem jj_thr {M M' : jj_M} {Z : jj_E} {hh : jj_HH} {RC RS : Nat} {x : jj_X} (hC : jj_Cx M RC RS x) (hB : jj_Tb hh x) (hZ : jj_Zok (jj_nm M).cls Z) {pc index a c0 : Nat} (hd : decode (jj_code M) pc = .ok (.invokevirtual index, 3)) (hz : jj_nth Z.2 a = some (index, 0, c0, M')) (hr : jj_room M M' = true)
    (pre suf : jj_HH) (z : Nat × Nat × Nat × Nat) (hsp : hh = pre ++ z :: suf) {E0 : String} (hpass : ∀ y ∈ pre, y.2.2.2 ≠ 0 ∧ ∃ nm, Cond.classLink (jj_nm M).cls y.2.2.2 nm ∈ jj_G ∧ (E0, nm) ∈ jj_NC) (hcov : covers ⟨z.1, z.2.1, z.2.2.1, z.2.2.2⟩ pc = true) (hz0 : z.2.2.2 ≠ 0) (hlink : Cond.classLink (jj_nm M).cls z.2.2.2 E0 ∈ jj_G) (hcast : Cond.castable E0 E0 ∈ jj_XW)
    {as rest : List Value} {b : Nat} {vs : List Value} {η : jj_H} {k n : Nat} {ls : jj_L} {st : List Value} (hst : st = as.reverse ++ .ref b :: rest) (hη : η b = some (.inr (c0, vs))) (hlen : as.length = jj_np M') (hsum : Nat.ble (jj_sum rest) 8 = true) {mc ms : Nat} (hc : jj_HX M' (.ref b :: as) η mc ms (fun _ _ => False) (fun E => E = E0)) (h1 : k + mc ≤ RC) (h2 : n + ms ≤ RS)
    (kk : ∀ q, jj_J x η (k + mc) (n + ms) z.2.2.1 ls [.ref q]) : jj_J x η k n pc ls st := by
  subst hst
  obtain ⟨p, l, e, R, s, m, args, below, meth, c, Q, D, tyc, A⟩ := x
  obtain ⟨hx, hb, hml, hown, hts, hlocks, hrt, hin, hfr, hlo, hRC, hRS, hKK, hA, hWd, hst⟩ := hC
  obtain ⟨q1, q2⟩ := jj_room_ok hr
  intro ws H locs lsA hi hP hD hS hl
  have hM := hc l D tyc H.size ws hst hi
  have hp := jj_pre (as := .ref b :: as) hP hD hS hA hKK hWd
  obtain ⟨hMok, g1, g2, g3, q, g4, g5⟩ := hZ.2 _ (jj_nth_mem hz)
  dsimp only at hMok g1 g2 g3 g4 g5
  obtain ⟨i0, -, hat⟩ := jj_at (tyc := tyc) hi hη
  have hsum : (rest.map fun v => v.category).sum ≤ 8 := by rw [jj_sum_eq]; exact Nat.le_of_ble_eq_true hsum
  have hr : vx_Run p l e R s m args below meth c H locs k n mc ms (F0 m pc lsA (as.reverse ++ .ref b :: rest)) rest (jj_Q D tyc (va_A (jj_ws tyc ws) H.size) (fun _ _ => False) (Value.ref b :: as).toArray) (jj_XC D tyc (va_A (jj_ws tyc ws) H.size) η (fun E => E = E0)) (va_A (jj_ws tyc ws) H.size) := vx_runV (As := as) (rest := rest) ⟨hx, hb, rfl, hown, hts⟩ hM ⟨callB_of (jj_np M') hts (jj_wd_good hMok) rfl rfl rfl (hts _ hMok.2.1) (hts _ g1) hMok.2.2 ⟨by rw [hfr]; exact q1, by rw [hlo]; exact q2⟩, hts _ g2, hts _ g3⟩ ⟨hp.1, by rw [← g5]; exact va_recv hKK hP g4 hat, hp.2⟩ rfl hlen hl.1 rfl (lv_room hsum) hd ⟨by rw [hRC]; exact h1, by rw [hRS]; exact h2⟩
  have hF : ∀ q, va_A (jj_ws tyc ws) H.size q → A q := by
    intro q hq
    rcases hq with ⟨i, e, h⟩ | h
    · exact hD.2 i (q, e) h
    · exact hA q (Nat.le_trans hS.1 h)
  have xw : ∀ w ∈ jj_XW, w.onTables = true := by decide +kernel
  intro T hT X
  rcases hr T hT X with ⟨v, st₀, t, T', L, h0, X', hL, e1, e2, ⟨⟨v', η', ws', hv, hp9, -⟩, -⟩, st⟩ | ⟨q9, st₀, t, T', L, E, ce, h0, X', hL, e1, e2, ⟨⟨hE, ws', hi', hP', hD'⟩, hFr⟩, hce, hcv, hcl, st⟩
  · exact hp9.elim
  · subst hE
    obtain ⟨hz9, hk9⟩ := hFr
    rw [h0] at hz9 hk9
    have hS' : va_S A s.heap T'.heap (locs ++ L) := ⟨Nat.le_trans hS.1 (by rw [e1]; exact hz9), fun q h1 h2 => by rw [e1, hk9 q (Nat.lt_of_lt_of_le h1 hS.1) (fun z => h2 (hF q z))]; exact hS.2.1 q h1 h2, fun q hq => by
        rcases List.mem_append.mp hq with h | h
        · exact hS.2.2 q h
        · exact hF _ (hL q h)⟩
    have w := kk q9 ws' T'.heap (locs ++ L) lsA hi' (by rw [e1]; exact hP') (hD'.weaken fun i q _ h => hF _ h) hS' hl
    have w2 := vx_catch (p := p) (pc := pc) (rest := rest) (q := q9) (E := E) (ce := ce) hown (tableOf pre) ⟨z.1, z.2.1, z.2.2.1, z.2.2.2⟩ (tableOf suf) (by
        show c.exceptionTable.toList = _
        rw [show c.exceptionTable.toList = tableOf hh from hB, hsp]
        unfold tableOf
        rw [List.map_append, List.map_cons]) (fun y hy => by
        obtain ⟨y0, hy0, rfl⟩ := List.mem_map.mp hy
        obtain ⟨g1, nm, g2, g3⟩ := hpass y0 hy0
        exact Or.inr ⟨g1, nm, hts _ g2, hWd.1.2.2.2 _ g3⟩) hcov hz0 (hts _ hlink) (va_Nw.use (xw _ hcast) (hWd.1.2.1 _ hcast)) (by rw [e1]; exact hce) hcv hcl w
    obtain ⟨t2, a1, b1⟩ := w2 T' rfl X'
    exact ⟨t2, st.trans a1, b1⟩
/-- segments of a body that ends elsewhere -/
abbrev jj_Rn2 (Z : jj_E) (T : jj_T) (RC RS : Nat) (J : jj_K) : Prop := ∀ (S : List (Nat × Nat)) (f : Nat) {η : jj_H} {k n pc : Nat} {ls : jj_L} {st : List Value}, jj_es S Z T RC RS (fun _ _ => False) (fun _ _ => False) J f η k n pc ls st → J η k n pc ls st
theorem jj_run4 {M : jj_M} {Z : jj_E} {T : jj_T} {RC RS : Nat} {x : jj_X} (hC : jj_Cx M RC RS x) (hZ : jj_Zok (jj_nm M).cls Z) (hT : jj_Tok M Z T) : jj_Rn2 Z T RC RS (jj_J x) := by
  intro S f
  induction f with
  | zero => intro η k n pc ls st h; exact h
  | succ f ih =>
    intro η k n pc ls st h
    have h : (match jj_sp S pc with
      | some m => jj_fc (ls.take m) (fun ls' => jj_J x η k n pc ls' st)
      | none => jj_step Z T RC RS (fun _ _ => False) (fun _ _ => False) (jj_es S Z T RC RS (fun _ _ => False) (fun _ _ => False) (jj_J x) f) η k n pc ls st) := h
    split at h
    next m _ =>
      rw [jj_fc_eq] at h
      exact h.sub _ (fun q hq => List.mem_of_mem_take hq)
    next => exact jj_sound2 hC (fun _ _ h => h) (fun _ _ h => h) hZ hT (fun _ _ _ _ _ _ h => ih h) _ _ _ _ _ _ h
theorem jj_J.widen {x : jj_X} {η : jj_H} {k n k' n' pc : Nat} {ls : jj_L} {st : List Value} (h1 : k ≤ k') (h2 : n ≤ n') (h : jj_J x η k' n' pc ls st) : jj_J x η k n pc ls st := by
  obtain ⟨p, l, e, R, s, m, args, below, meth, c, Q, D, tyc, A⟩ := x
  intro ws H locs lsA hi hP hD hS hl
  exact W.widen h1 h2 (h ws H locs lsA hi hP hD hS hl)
