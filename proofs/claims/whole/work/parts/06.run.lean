/-! MANY STEPS; A METHOD FROM ITS ENTRY -/
theorem jj_run {M : jj_M} {Z : jj_E} {T : jj_T} {RC RS : Nat} {x : jj_X} {post : Option Value → jj_H → Prop} {X : jj_H → String → Prop} (hC : jj_Cx M RC RS x) (hE : jj_En post X x) (hZ : jj_Zok (jj_nm M).cls Z) (hT : jj_Tok M Z T) (f : Nat) {η : jj_H} {k n pc : Nat} {ls : jj_L} {st : List Value}
    (h : ∀ K : jj_K, (∀ η k n pc ls st, jj_J x η k n pc ls st → K η k n pc ls st) → jj_ex Z T RC RS post X K f η k n pc ls st) : jj_J x η k n pc ls st := by
  have key : ∀ (f : Nat) (η : jj_H) (k n pc : Nat) (ls : jj_L) (st : List Value), jj_ex Z T RC RS post X (jj_J x) f η k n pc ls st → jj_J x η k n pc ls st := by
    intro f
    induction f with
    | zero => intro η k n pc ls st h; exact h
    | succ f ih => intro η k n pc ls st h; exact jj_sound hC hE hZ hT ih η k n pc ls st h
  exact key f η k n pc ls st (h (jj_J x) (fun _ _ _ _ _ _ h => h))
/-- fewer locals, or in another order -/
theorem jj_J.sub {x : jj_X} {η : jj_H} {k n pc : Nat} {ls : jj_L} {st : List Value} (ls' : jj_L) (hs : ∀ q ∈ ls', q ∈ ls) (h : jj_J x η k n pc ls' st) : jj_J x η k n pc ls st := by
  obtain ⟨p, l, e, R, s, m, args, below, meth, c, Q, D, tyc, A⟩ := x
  intro ws H locs lsA hi hP hD hS hl
  exact h ws H locs lsA hi hP hD hS (jj_has_sub hl hs)
/-- a contract that throws or returns, out of its body's walk -/
theorem jj_HX.of {M : jj_M} {as : List Value} {η : jj_H} {mc ms : Nat} {post : Option Value → jj_H → Prop} {X : String → Prop} (hy : plainName (jj_nm M).cls = true) (hn : (lg_sl as).length ≤ jj_mx M)
    (body : ∀ x, jj_Cx M mc ms x → jj_En post (fun η' E => η' = η ∧ X E) x → jj_J x η 0 0 0 (lv_args 0 as) []) : jj_HX M as η mc ms post X := by
  intro l D tyc sz ws hl hi
  refine vx_ofW (cc := jj_code M) (maxL := jj_mx M) (ret := jj_ret M) hy rfl ?_
  intro p e s m args below meth c s₁ B hml hno hv
  obtain ⟨rfl, hsz, hP, hK, hD0, hW⟩ := hv
  have hts := atoms_spec (ws := jj_wd M) B.pre
  have hown : s.vm.findClass (jj_nm M).cls = some m.cls := findClass_of_methodNamed B.named
  subst hsz
  have hD := hD0.self (sz := s.heap.size)
  have hl9 := lv_entry as hn
  rw [lg_entry_eq]
  have hb := body (p, l, e, (headSpec (jj_wd M) (jj_rm M mc ms)).room, s, m, as.toArray, below, meth, c, vx_MQ below (jj_Q D tyc (va_A (jj_ws tyc ws) s.heap.size) post) (jj_XC D tyc (va_A (jj_ws tyc ws) s.heap.size) η X) as.toArray s mc ms (va_A (jj_ws tyc ws) s.heap.size), D, tyc, va_A (jj_ws tyc ws) s.heap.size)
    ⟨B.exec, B.bytes, hml, hown, fun w hw => hts w (List.mem_cons_of_mem _ hw), B.notSynchronized, B.returns, (name_of_methodNamed B.named B.method).1, rfl, rfl, rfl, rfl, hK, fun q h => Or.inr h, hW, hl⟩
    ⟨η, X, rfl, fun η' E h => ⟨h.1, h.2, hno⟩⟩
  exact hb ws s.heap [] _ hi hP hD va_S.rf (by rw [hml]; exact hl9)
/-- a contract that returns -/
theorem jj_Ht.of {M : jj_M} {as : List Value} {η : jj_H} {mc ms : Nat} {post : Option Value → jj_H → Prop} (hy : plainName (jj_nm M).cls = true) (hn : (lg_sl as).length ≤ jj_mx M)
    (body : ∀ x, jj_Cx M mc ms x → jj_En post (fun _ _ => False) x → jj_J x η 0 0 0 (lv_args 0 as) []) : jj_Ht M as η mc ms post := by
  refine jj_HX.ret (jj_HX.of hy hn fun x hC hE => body x hC ?_)
  obtain ⟨p, l, e, R, s, m, args, below, meth, c, Q, D, tyc, A⟩ := x
  obtain ⟨η0, X0, hQ, hX⟩ := hE
  exact ⟨η0, X0, hQ, fun _ _ h => h.elim⟩
