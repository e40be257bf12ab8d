/-! THE LAW's WRAPPERS (written by wip/whole/gen81.py) -/
abbrev x_l (n : Nat) (f : Nat → Int64) : va_E := .inl (1, n, .inr (.inl f))
abbrev jj_Rn3 (Z : jj_E) (T : jj_T) (RC RS : Nat) (post : Option Value → jj_H → Prop) (J : jj_K) : Prop := ∀ (S : List (Nat × Nat)) (f : Nat) {η : jj_H} {k n pc : Nat} {ls : jj_L} {st : List Value}, jj_es S Z T RC RS post (fun _ _ => False) J f η k n pc ls st → J η k n pc ls st
abbrev jj_Th (M : jj_M) (Z : jj_E) (hh : jj_HH) (RC RS : Nat) (J : jj_K) : Prop := ∀ {M' : jj_M} {pc index a c0 : Nat} (_ : decode (jj_code M) pc = .ok (.invokevirtual index, 3)) (_ : jj_nth Z.2 a = some (index, 0, c0, M')) (_ : jj_room M M' = true)
    (pre suf : jj_HH) (z : Nat × Nat × Nat × Nat) (_ : hh = pre ++ z :: suf) {E0 : String} (_ : ∀ y ∈ pre, y.2.2.2 ≠ 0 ∧ ∃ nm, Cond.classLink (jj_nm M).cls y.2.2.2 nm ∈ jj_G ∧ (E0, nm) ∈ jj_NC) (_ : covers ⟨z.1, z.2.1, z.2.2.1, z.2.2.2⟩ pc = true) (_ : z.2.2.2 ≠ 0) (_ : Cond.classLink (jj_nm M).cls z.2.2.2 E0 ∈ jj_G) (_ : Cond.castable E0 E0 ∈ jj_XW)
    {as rest : List Value} {b : Nat} {vs : List Value} {η : jj_H} {k n : Nat} {ls : jj_L} {st : List Value} (_ : st = as.reverse ++ .ref b :: rest) (_ : η b = some (.inr (c0, vs))) (_ : as.length = jj_np M') (_ : Nat.ble (jj_sum rest) 8 = true) {mc ms : Nat} (_ : jj_HX M' (.ref b :: as) η mc ms (fun _ _ => False) (fun E => E = E0)) (_ : k + mc ≤ RC) (_ : n + ms ≤ RS)
    (_ : ∀ q, J η (k + mc) (n + ms) z.2.2.1 ls [.ref q]), J η k n pc ls st
theorem jj_wgo {M : jj_M} {Z : jj_E} {T : jj_T} (hT : jj_Tok M Z T) (hZ : jj_Zok (jj_nm M).cls Z) (hy : plainName (jj_nm M).cls = true) {hh : jj_HH} {as : List Value} {η : jj_H} {mc ms : Nat} {post : Option Value → jj_H → Prop} (hn : Nat.ble (lg_sl as).length (jj_mx M) = true)
    (body : ∀ J : jj_K, jj_Rn3 Z T mc ms post J → jj_Th M Z hh mc ms J → jj_fc (jj_ar 0 as) (fun ls => J η 0 0 0 ls [])) : jj_HtH M hh as η mc ms post :=
  jj_HtH.of hy (Nat.le_of_ble_eq_true hn) fun x hC hB hE => by
    have h9 := body (jj_J x) (fun S f {_ _ _ _ _ _} h => jj_run3 S hC hE hZ hT f _ _ _ _ _ _ h) (fun {_ _ _ _ _} hd hz hr pre suf z hsp {_} hpass hcov hz0 hlink hcast {_ _ _ _ _ _ _ _ _} hst hη hlen hsum {_ _} hc h1 h2 kk => jj_thr hC hB hZ hd hz hr pre suf z hsp hpass hcov hz0 hlink hcast hst hη hlen hsum hc h1 h2 kk)
    rw [jj_fc_eq] at h9
    rw [jj_ar_eq]
    exact h9
theorem l_eI : Cond.classLink RL 21 eI ∈ jj_G := by decide +kernel
theorem l_eA : Cond.classLink RL 13 eA ∈ jj_G := by decide +kernel
theorem l_eS : Cond.classLink RL 15 eS ∈ jj_G := by decide +kernel
theorem k_eI : Cond.castable eI eI ∈ jj_XW := by decide +kernel
theorem k_eA : Cond.castable eA eA ∈ jj_XW := by decide +kernel
theorem k_eS : Cond.castable eS eS ∈ jj_XW := by decide +kernel
theorem l_ini : Cond.initialized RL ∈ jj_G := by decide +kernel
abbrev hh_addPlate : jj_HH := [(0, 10, 13, 13), (0, 10, 17, 15)]
theorem okH_addPlate : jj_MokH mL_addPlate hh_addPlate := ⟨jj_in_r3 _ (List.mem_of_getElem? (i := 7) rfl), l_ini, jj_in_r3 _ (List.mem_of_getElem? (i := 5) rfl), by decide, by decide, by decide +kernel⟩
theorem w_addPlate_ok {η : jj_H} {b q : Nat} {vs : List Value} {mc ms : Nat} {post : Option Value → jj_H → Prop} (p0 p1 : Int32) (hb : η b = some (.inr (6, vs))) (h : jj_HX mX6_addPlate [.ref b, .int p0, .int p1] η mc ms post (fun _ => False)) (hq : ∀ v η', post v η' → ∃ r f, v = some (.int r) ∧ η' q = some (x_l 1 f)) :
    jj_HtH mL_addPlate hh_addPlate [.ref b, .int p0, .int p1, .ref q] η mc ms (fun v η' => v = some (.int 0) ∧ ∃ r η1 f, post (some (.int r)) η1 ∧ η1 q = some (x_l 1 f) ∧ η' = jj_up η1 q (x_l 1 (vp_updL f 0 r.toInt64))) := by
  refine jj_wgo tok_L_addPlate zok_L py_L rfl fun J run thr => ?_
  refine run [] 60 ?_
  refine ⟨_, hb, mc, ms, _, h.ret, by omega, by omega, fun v η' hv => ?_⟩
  obtain ⟨r, f, rfl, hf⟩ := hq v η' hv
  exact ⟨1, f, 0, hf, nI_0.symm, by decide, trivial, ⟨rfl, r, η', f, hv, hf, rfl⟩, by omega, by omega⟩
theorem w_addPlate_x1 {η : jj_H} {b q : Nat} {vs : List Value} {mc ms : Nat} (p0 p1 : Int32) (hb : η b = some (.inr (6, vs))) (h : jj_HX mX6_addPlate [.ref b, .int p0, .int p1] η mc ms (fun _ _ => False) (fun E => E = eA)) :
    jj_HtH mL_addPlate hh_addPlate [.ref b, .int p0, .int p1, .ref q] η mc ms (fun v η' => v = some (.int (nI 1)) ∧ η' = η) := by
  refine jj_wgo tok_L_addPlate zok_L py_L rfl fun J run thr => ?_
  refine run [(5, 4)] 60 ?_
  refine thr (M' := mX6_addPlate) (index := 7) (a := 2) (c0 := 6) (as := [.int p0, .int p1]) (b := b) (mc := mc) (ms := ms) (E0 := eA) (by decide +kernel) rfl (by decide) [] [(0, 10, 17, 15)] (0, 10, 13, 13) rfl ?_ (by decide) (by decide) l_eA k_eA rfl hb rfl rfl h (by omega) (by omega) fun q9 => ?_
  · intro y hy
    cases hy
  · refine run [] 20 ?_
    exact ⟨trivial, ⟨rfl, rfl⟩, by omega, by omega⟩
theorem w_addPlate_x2 {η : jj_H} {b q : Nat} {vs : List Value} {mc ms : Nat} (p0 p1 : Int32) (hb : η b = some (.inr (6, vs))) (h : jj_HX mX6_addPlate [.ref b, .int p0, .int p1] η mc ms (fun _ _ => False) (fun E => E = eS)) :
    jj_HtH mL_addPlate hh_addPlate [.ref b, .int p0, .int p1, .ref q] η mc ms (fun v η' => v = some (.int (nI 2)) ∧ η' = η) := by
  refine jj_wgo tok_L_addPlate zok_L py_L rfl fun J run thr => ?_
  refine run [(5, 4)] 60 ?_
  refine thr (M' := mX6_addPlate) (index := 7) (a := 2) (c0 := 6) (as := [.int p0, .int p1]) (b := b) (mc := mc) (ms := ms) (E0 := eS) (by decide +kernel) rfl (by decide) [(0, 10, 13, 13)] [] (0, 10, 17, 15) rfl ?_ (by decide) (by decide) l_eS k_eS rfl hb rfl rfl h (by omega) (by omega) fun q9 => ?_
  · intro y hy
    simp only [List.mem_cons, List.not_mem_nil, or_false] at hy
    subst hy
    exact ⟨by decide, _, l_eA, by decide⟩
  · refine run [] 20 ?_
    exact ⟨trivial, ⟨rfl, rfl⟩, by omega, by omega⟩
abbrev hh_addFlaw : jj_HH := [(0, 18, 21, 21), (0, 18, 25, 13), (0, 18, 29, 15)]
theorem okH_addFlaw : jj_MokH mL_addFlaw hh_addFlaw := ⟨jj_in_r5 _ (List.mem_of_getElem? (i := 4) rfl), l_ini, jj_in_r5 _ (List.mem_of_getElem? (i := 3) rfl), by decide, by decide, by decide +kernel⟩
theorem w_addFlaw_ok {η : jj_H} {b q : Nat} {vs : List Value} {mc ms : Nat} {post : Option Value → jj_H → Prop} (p0 p1 p2 p3 p4 p5 : Int32) (hb : η b = some (.inr (6, vs))) (h : jj_HX mX6_addFlaw [.ref b, .int p0, .int p1, .int p2, .int p3, .int p4, .int p5] η mc ms post (fun _ => False)) (hq : ∀ v η', post v η' → ∃ r f, v = some (.int r) ∧ η' q = some (x_l 1 f)) :
    jj_HtH mL_addFlaw hh_addFlaw [.ref b, .int p0, .int p1, .int p2, .int p3, .int p4, .int p5, .ref q] η mc ms (fun v η' => v = some (.int 0) ∧ ∃ r η1 f, post (some (.int r)) η1 ∧ η1 q = some (x_l 1 f) ∧ η' = jj_up η1 q (x_l 1 (vp_updL f 0 r.toInt64))) := by
  refine jj_wgo tok_L_addFlaw zok_L py_L rfl fun J run thr => ?_
  refine run [] 60 ?_
  refine ⟨_, hb, mc, ms, _, h.ret, by omega, by omega, fun v η' hv => ?_⟩
  obtain ⟨r, f, rfl, hf⟩ := hq v η' hv
  exact ⟨1, f, 0, hf, nI_0.symm, by decide, trivial, ⟨rfl, r, η', f, hv, hf, rfl⟩, by omega, by omega⟩
theorem w_addFlaw_x1 {η : jj_H} {b q : Nat} {vs : List Value} {mc ms : Nat} (p0 p1 p2 p3 p4 p5 : Int32) (hb : η b = some (.inr (6, vs))) (h : jj_HX mX6_addFlaw [.ref b, .int p0, .int p1, .int p2, .int p3, .int p4, .int p5] η mc ms (fun _ _ => False) (fun E => E = eI)) :
    jj_HtH mL_addFlaw hh_addFlaw [.ref b, .int p0, .int p1, .int p2, .int p3, .int p4, .int p5, .ref q] η mc ms (fun v η' => v = some (.int (nI 1)) ∧ η' = η) := by
  refine jj_wgo tok_L_addFlaw zok_L py_L rfl fun J run thr => ?_
  refine run [(13, 8)] 60 ?_
  refine thr (M' := mX6_addFlaw) (index := 17) (a := 5) (c0 := 6) (as := [.int p0, .int p1, .int p2, .int p3, .int p4, .int p5]) (b := b) (mc := mc) (ms := ms) (E0 := eI) (by decide +kernel) rfl (by decide) [] [(0, 18, 25, 13), (0, 18, 29, 15)] (0, 18, 21, 21) rfl ?_ (by decide) (by decide) l_eI k_eI rfl hb rfl rfl h (by omega) (by omega) fun q9 => ?_
  · intro y hy
    cases hy
  · refine run [] 20 ?_
    exact ⟨trivial, ⟨rfl, rfl⟩, by omega, by omega⟩
theorem w_addFlaw_x2 {η : jj_H} {b q : Nat} {vs : List Value} {mc ms : Nat} (p0 p1 p2 p3 p4 p5 : Int32) (hb : η b = some (.inr (6, vs))) (h : jj_HX mX6_addFlaw [.ref b, .int p0, .int p1, .int p2, .int p3, .int p4, .int p5] η mc ms (fun _ _ => False) (fun E => E = eA)) :
    jj_HtH mL_addFlaw hh_addFlaw [.ref b, .int p0, .int p1, .int p2, .int p3, .int p4, .int p5, .ref q] η mc ms (fun v η' => v = some (.int (nI 2)) ∧ η' = η) := by
  refine jj_wgo tok_L_addFlaw zok_L py_L rfl fun J run thr => ?_
  refine run [(13, 8)] 60 ?_
  refine thr (M' := mX6_addFlaw) (index := 17) (a := 5) (c0 := 6) (as := [.int p0, .int p1, .int p2, .int p3, .int p4, .int p5]) (b := b) (mc := mc) (ms := ms) (E0 := eA) (by decide +kernel) rfl (by decide) [(0, 18, 21, 21)] [(0, 18, 29, 15)] (0, 18, 25, 13) rfl ?_ (by decide) (by decide) l_eA k_eA rfl hb rfl rfl h (by omega) (by omega) fun q9 => ?_
  · intro y hy
    simp only [List.mem_cons, List.not_mem_nil, or_false] at hy
    subst hy
    exact ⟨by decide, _, l_eI, by decide⟩
  · refine run [] 20 ?_
    exact ⟨trivial, ⟨rfl, rfl⟩, by omega, by omega⟩
theorem w_addFlaw_x3 {η : jj_H} {b q : Nat} {vs : List Value} {mc ms : Nat} (p0 p1 p2 p3 p4 p5 : Int32) (hb : η b = some (.inr (6, vs))) (h : jj_HX mX6_addFlaw [.ref b, .int p0, .int p1, .int p2, .int p3, .int p4, .int p5] η mc ms (fun _ _ => False) (fun E => E = eS)) :
    jj_HtH mL_addFlaw hh_addFlaw [.ref b, .int p0, .int p1, .int p2, .int p3, .int p4, .int p5, .ref q] η mc ms (fun v η' => v = some (.int (nI 3)) ∧ η' = η) := by
  refine jj_wgo tok_L_addFlaw zok_L py_L rfl fun J run thr => ?_
  refine run [(13, 8)] 60 ?_
  refine thr (M' := mX6_addFlaw) (index := 17) (a := 5) (c0 := 6) (as := [.int p0, .int p1, .int p2, .int p3, .int p4, .int p5]) (b := b) (mc := mc) (ms := ms) (E0 := eS) (by decide +kernel) rfl (by decide) [(0, 18, 21, 21), (0, 18, 25, 13)] [] (0, 18, 29, 15) rfl ?_ (by decide) (by decide) l_eS k_eS rfl hb rfl rfl h (by omega) (by omega) fun q9 => ?_
  · intro y hy
    simp only [List.mem_cons, List.not_mem_nil, or_false] at hy
    rcases hy with rfl | rfl
    · exact ⟨by decide, _, l_eI, by decide⟩
    · exact ⟨by decide, _, l_eA, by decide⟩
  · refine run [] 20 ?_
    exact ⟨trivial, ⟨rfl, rfl⟩, by omega, by omega⟩
abbrev hh_addPaper : jj_HH := [(0, 10, 13, 13), (0, 10, 17, 15)]
theorem okH_addPaper : jj_MokH mL_addPaper hh_addPaper := ⟨jj_in_r8 _ (List.mem_of_getElem? (i := 5) rfl), l_ini, jj_in_r8 _ (List.mem_of_getElem? (i := 4) rfl), by decide, by decide, by decide +kernel⟩
theorem w_addPaper_ok {η : jj_H} {b q : Nat} {vs : List Value} {mc ms : Nat} {post : Option Value → jj_H → Prop} (p0 p1 : Int32) (hb : η b = some (.inr (6, vs))) (h : jj_HX mX6_addPaper [.ref b, .int p0, .int p1] η mc ms post (fun _ => False)) (hq : ∀ v η', post v η' → ∃ r f, v = some (.int r) ∧ η' q = some (x_l 1 f)) :
    jj_HtH mL_addPaper hh_addPaper [.ref b, .int p0, .int p1, .ref q] η mc ms (fun v η' => v = some (.int 0) ∧ ∃ r η1 f, post (some (.int r)) η1 ∧ η1 q = some (x_l 1 f) ∧ η' = jj_up η1 q (x_l 1 (vp_updL f 0 r.toInt64))) := by
  refine jj_wgo tok_L_addPaper zok_L py_L rfl fun J run thr => ?_
  refine run [] 60 ?_
  refine ⟨_, hb, mc, ms, _, h.ret, by omega, by omega, fun v η' hv => ?_⟩
  obtain ⟨r, f, rfl, hf⟩ := hq v η' hv
  exact ⟨1, f, 0, hf, nI_0.symm, by decide, trivial, ⟨rfl, r, η', f, hv, hf, rfl⟩, by omega, by omega⟩
theorem w_addPaper_x1 {η : jj_H} {b q : Nat} {vs : List Value} {mc ms : Nat} (p0 p1 : Int32) (hb : η b = some (.inr (6, vs))) (h : jj_HX mX6_addPaper [.ref b, .int p0, .int p1] η mc ms (fun _ _ => False) (fun E => E = eA)) :
    jj_HtH mL_addPaper hh_addPaper [.ref b, .int p0, .int p1, .ref q] η mc ms (fun v η' => v = some (.int (nI 1)) ∧ η' = η) := by
  refine jj_wgo tok_L_addPaper zok_L py_L rfl fun J run thr => ?_
  refine run [(5, 4)] 60 ?_
  refine thr (M' := mX6_addPaper) (index := 23) (a := 7) (c0 := 6) (as := [.int p0, .int p1]) (b := b) (mc := mc) (ms := ms) (E0 := eA) (by decide +kernel) rfl (by decide) [] [(0, 10, 17, 15)] (0, 10, 13, 13) rfl ?_ (by decide) (by decide) l_eA k_eA rfl hb rfl rfl h (by omega) (by omega) fun q9 => ?_
  · intro y hy
    cases hy
  · refine run [] 20 ?_
    exact ⟨trivial, ⟨rfl, rfl⟩, by omega, by omega⟩
theorem w_addPaper_x2 {η : jj_H} {b q : Nat} {vs : List Value} {mc ms : Nat} (p0 p1 : Int32) (hb : η b = some (.inr (6, vs))) (h : jj_HX mX6_addPaper [.ref b, .int p0, .int p1] η mc ms (fun _ _ => False) (fun E => E = eS)) :
    jj_HtH mL_addPaper hh_addPaper [.ref b, .int p0, .int p1, .ref q] η mc ms (fun v η' => v = some (.int (nI 2)) ∧ η' = η) := by
  refine jj_wgo tok_L_addPaper zok_L py_L rfl fun J run thr => ?_
  refine run [(5, 4)] 60 ?_
  refine thr (M' := mX6_addPaper) (index := 23) (a := 7) (c0 := 6) (as := [.int p0, .int p1]) (b := b) (mc := mc) (ms := ms) (E0 := eS) (by decide +kernel) rfl (by decide) [(0, 10, 13, 13)] [] (0, 10, 17, 15) rfl ?_ (by decide) (by decide) l_eS k_eS rfl hb rfl rfl h (by omega) (by omega) fun q9 => ?_
  · intro y hy
    simp only [List.mem_cons, List.not_mem_nil, or_false] at hy
    subst hy
    exact ⟨by decide, _, l_eA, by decide⟩
  · refine run [] 20 ?_
    exact ⟨trivial, ⟨rfl, rfl⟩, by omega, by omega⟩
abbrev hh_print : jj_HH := [(0, 14, 17, 21), (0, 14, 21, 13), (0, 14, 25, 15)]
theorem okH_print : jj_MokH mL_print hh_print := ⟨jj_in_r9 _ (List.mem_of_getElem? (i := 2) rfl), l_ini, jj_in_r9 _ (List.mem_of_getElem? (i := 1) rfl), by decide, by decide, by decide +kernel⟩
theorem w_print_ok {η : jj_H} {b q : Nat} {vs : List Value} {mc ms : Nat} {post : Option Value → jj_H → Prop} (p0 p1 p2 p3 : Int32) (hb : η b = some (.inr (6, vs))) (h : jj_HX mX6_print [.ref b, .int p0, .int p1, .int p2, .int p3] η mc ms post (fun _ => False)) (hq : ∀ v η', post v η' → ∃ r f, v = some (.int r) ∧ η' q = some (x_l 1 f)) :
    jj_HtH mL_print hh_print [.ref b, .int p0, .int p1, .int p2, .int p3, .ref q] η mc ms (fun v η' => v = some (.int 0) ∧ ∃ r η1 f, post (some (.int r)) η1 ∧ η1 q = some (x_l 1 f) ∧ η' = jj_up η1 q (x_l 1 (vp_updL f 0 r.toInt64))) := by
  refine jj_wgo tok_L_print zok_L py_L rfl fun J run thr => ?_
  refine run [] 60 ?_
  refine ⟨_, hb, mc, ms, _, h.ret, by omega, by omega, fun v η' hv => ?_⟩
  obtain ⟨r, f, rfl, hf⟩ := hq v η' hv
  exact ⟨1, f, 0, hf, nI_0.symm, by decide, trivial, ⟨rfl, r, η', f, hv, hf, rfl⟩, by omega, by omega⟩
theorem w_print_x1 {η : jj_H} {b q : Nat} {vs : List Value} {mc ms : Nat} (p0 p1 p2 p3 : Int32) (hb : η b = some (.inr (6, vs))) (h : jj_HX mX6_print [.ref b, .int p0, .int p1, .int p2, .int p3] η mc ms (fun _ _ => False) (fun E => E = eI)) :
    jj_HtH mL_print hh_print [.ref b, .int p0, .int p1, .int p2, .int p3, .ref q] η mc ms (fun v η' => v = some (.int (nI 1)) ∧ η' = η) := by
  refine jj_wgo tok_L_print zok_L py_L rfl fun J run thr => ?_
  refine run [(9, 6)] 60 ?_
  refine thr (M' := mX6_print) (index := 26) (a := 9) (c0 := 6) (as := [.int p0, .int p1, .int p2, .int p3]) (b := b) (mc := mc) (ms := ms) (E0 := eI) (by decide +kernel) rfl (by decide) [] [(0, 14, 21, 13), (0, 14, 25, 15)] (0, 14, 17, 21) rfl ?_ (by decide) (by decide) l_eI k_eI rfl hb rfl rfl h (by omega) (by omega) fun q9 => ?_
  · intro y hy
    cases hy
  · refine run [] 20 ?_
    exact ⟨trivial, ⟨rfl, rfl⟩, by omega, by omega⟩
theorem w_print_x2 {η : jj_H} {b q : Nat} {vs : List Value} {mc ms : Nat} (p0 p1 p2 p3 : Int32) (hb : η b = some (.inr (6, vs))) (h : jj_HX mX6_print [.ref b, .int p0, .int p1, .int p2, .int p3] η mc ms (fun _ _ => False) (fun E => E = eA)) :
    jj_HtH mL_print hh_print [.ref b, .int p0, .int p1, .int p2, .int p3, .ref q] η mc ms (fun v η' => v = some (.int (nI 2)) ∧ η' = η) := by
  refine jj_wgo tok_L_print zok_L py_L rfl fun J run thr => ?_
  refine run [(9, 6)] 60 ?_
  refine thr (M' := mX6_print) (index := 26) (a := 9) (c0 := 6) (as := [.int p0, .int p1, .int p2, .int p3]) (b := b) (mc := mc) (ms := ms) (E0 := eA) (by decide +kernel) rfl (by decide) [(0, 14, 17, 21)] [(0, 14, 25, 15)] (0, 14, 21, 13) rfl ?_ (by decide) (by decide) l_eA k_eA rfl hb rfl rfl h (by omega) (by omega) fun q9 => ?_
  · intro y hy
    simp only [List.mem_cons, List.not_mem_nil, or_false] at hy
    subst hy
    exact ⟨by decide, _, l_eI, by decide⟩
  · refine run [] 20 ?_
    exact ⟨trivial, ⟨rfl, rfl⟩, by omega, by omega⟩
theorem w_print_x3 {η : jj_H} {b q : Nat} {vs : List Value} {mc ms : Nat} (p0 p1 p2 p3 : Int32) (hb : η b = some (.inr (6, vs))) (h : jj_HX mX6_print [.ref b, .int p0, .int p1, .int p2, .int p3] η mc ms (fun _ _ => False) (fun E => E = eS)) :
    jj_HtH mL_print hh_print [.ref b, .int p0, .int p1, .int p2, .int p3, .ref q] η mc ms (fun v η' => v = some (.int (nI 3)) ∧ η' = η) := by
  refine jj_wgo tok_L_print zok_L py_L rfl fun J run thr => ?_
  refine run [(9, 6)] 60 ?_
  refine thr (M' := mX6_print) (index := 26) (a := 9) (c0 := 6) (as := [.int p0, .int p1, .int p2, .int p3]) (b := b) (mc := mc) (ms := ms) (E0 := eS) (by decide +kernel) rfl (by decide) [(0, 14, 17, 21), (0, 14, 21, 13)] [] (0, 14, 25, 15) rfl ?_ (by decide) (by decide) l_eS k_eS rfl hb rfl rfl h (by omega) (by omega) fun q9 => ?_
  · intro y hy
    simp only [List.mem_cons, List.not_mem_nil, or_false] at hy
    rcases hy with rfl | rfl
    · exact ⟨by decide, _, l_eI, by decide⟩
    · exact ⟨by decide, _, l_eA, by decide⟩
  · refine run [] 20 ?_
    exact ⟨trivial, ⟨rfl, rfl⟩, by omega, by omega⟩
abbrev hh_setSheet : jj_HH := [(0, 16, 19, 21), (0, 16, 23, 13), (0, 16, 27, 15)]
theorem okH_setSheet : jj_MokH mL_setSheet hh_setSheet := ⟨jj_in_r10 _ (List.mem_of_getElem? (i := 9) rfl), l_ini, jj_in_r10 _ (List.mem_of_getElem? (i := 8) rfl), by decide, by decide, by decide +kernel⟩
theorem w_setSheet_ok {η : jj_H} {b q : Nat} {vs : List Value} {mc ms : Nat} {post : Option Value → jj_H → Prop} (p0 p1 p2 p3 p4 : Int32) (hb : η b = some (.inr (6, vs))) (h : jj_HX mX6_setSheet [.ref b, .int p0, .int p1, .int p2, .int p3, .int p4] η mc ms post (fun _ => False)) (hq : ∀ v η', post v η' → ∃ r f, v = some (.int r) ∧ η' q = some (x_l 1 f)) :
    jj_HtH mL_setSheet hh_setSheet [.ref b, .int p0, .int p1, .int p2, .int p3, .int p4, .ref q] η mc ms (fun v η' => v = some (.int 0) ∧ ∃ r η1 f, post (some (.int r)) η1 ∧ η1 q = some (x_l 1 f) ∧ η' = jj_up η1 q (x_l 1 (vp_updL f 0 r.toInt64))) := by
  refine jj_wgo tok_L_setSheet zok_L py_L rfl fun J run thr => ?_
  refine run [] 60 ?_
  refine ⟨_, hb, mc, ms, _, h.ret, by omega, by omega, fun v η' hv => ?_⟩
  obtain ⟨r, f, rfl, hf⟩ := hq v η' hv
  exact ⟨1, f, 0, hf, nI_0.symm, by decide, trivial, ⟨rfl, r, η', f, hv, hf, rfl⟩, by omega, by omega⟩
theorem w_setSheet_x1 {η : jj_H} {b q : Nat} {vs : List Value} {mc ms : Nat} (p0 p1 p2 p3 p4 : Int32) (hb : η b = some (.inr (6, vs))) (h : jj_HX mX6_setSheet [.ref b, .int p0, .int p1, .int p2, .int p3, .int p4] η mc ms (fun _ _ => False) (fun E => E = eI)) :
    jj_HtH mL_setSheet hh_setSheet [.ref b, .int p0, .int p1, .int p2, .int p3, .int p4, .ref q] η mc ms (fun v η' => v = some (.int (nI 1)) ∧ η' = η) := by
  refine jj_wgo tok_L_setSheet zok_L py_L rfl fun J run thr => ?_
  refine run [(11, 7)] 60 ?_
  refine thr (M' := mX6_setSheet) (index := 30) (a := 11) (c0 := 6) (as := [.int p0, .int p1, .int p2, .int p3, .int p4]) (b := b) (mc := mc) (ms := ms) (E0 := eI) (by decide +kernel) rfl (by decide) [] [(0, 16, 23, 13), (0, 16, 27, 15)] (0, 16, 19, 21) rfl ?_ (by decide) (by decide) l_eI k_eI rfl hb rfl rfl h (by omega) (by omega) fun q9 => ?_
  · intro y hy
    cases hy
  · refine run [] 20 ?_
    exact ⟨trivial, ⟨rfl, rfl⟩, by omega, by omega⟩
theorem w_setSheet_x2 {η : jj_H} {b q : Nat} {vs : List Value} {mc ms : Nat} (p0 p1 p2 p3 p4 : Int32) (hb : η b = some (.inr (6, vs))) (h : jj_HX mX6_setSheet [.ref b, .int p0, .int p1, .int p2, .int p3, .int p4] η mc ms (fun _ _ => False) (fun E => E = eA)) :
    jj_HtH mL_setSheet hh_setSheet [.ref b, .int p0, .int p1, .int p2, .int p3, .int p4, .ref q] η mc ms (fun v η' => v = some (.int (nI 2)) ∧ η' = η) := by
  refine jj_wgo tok_L_setSheet zok_L py_L rfl fun J run thr => ?_
  refine run [(11, 7)] 60 ?_
  refine thr (M' := mX6_setSheet) (index := 30) (a := 11) (c0 := 6) (as := [.int p0, .int p1, .int p2, .int p3, .int p4]) (b := b) (mc := mc) (ms := ms) (E0 := eA) (by decide +kernel) rfl (by decide) [(0, 16, 19, 21)] [(0, 16, 27, 15)] (0, 16, 23, 13) rfl ?_ (by decide) (by decide) l_eA k_eA rfl hb rfl rfl h (by omega) (by omega) fun q9 => ?_
  · intro y hy
    simp only [List.mem_cons, List.not_mem_nil, or_false] at hy
    subst hy
    exact ⟨by decide, _, l_eI, by decide⟩
  · refine run [] 20 ?_
    exact ⟨trivial, ⟨rfl, rfl⟩, by omega, by omega⟩
theorem w_setSheet_x3 {η : jj_H} {b q : Nat} {vs : List Value} {mc ms : Nat} (p0 p1 p2 p3 p4 : Int32) (hb : η b = some (.inr (6, vs))) (h : jj_HX mX6_setSheet [.ref b, .int p0, .int p1, .int p2, .int p3, .int p4] η mc ms (fun _ _ => False) (fun E => E = eS)) :
    jj_HtH mL_setSheet hh_setSheet [.ref b, .int p0, .int p1, .int p2, .int p3, .int p4, .ref q] η mc ms (fun v η' => v = some (.int (nI 3)) ∧ η' = η) := by
  refine jj_wgo tok_L_setSheet zok_L py_L rfl fun J run thr => ?_
  refine run [(11, 7)] 60 ?_
  refine thr (M' := mX6_setSheet) (index := 30) (a := 11) (c0 := 6) (as := [.int p0, .int p1, .int p2, .int p3, .int p4]) (b := b) (mc := mc) (ms := ms) (E0 := eS) (by decide +kernel) rfl (by decide) [(0, 16, 19, 21), (0, 16, 23, 13)] [] (0, 16, 27, 15) rfl ?_ (by decide) (by decide) l_eS k_eS rfl hb rfl rfl h (by omega) (by omega) fun q9 => ?_
  · intro y hy
    simp only [List.mem_cons, List.not_mem_nil, or_false] at hy
    rcases hy with rfl | rfl
    · exact ⟨by decide, _, l_eI, by decide⟩
    · exact ⟨by decide, _, l_eA, by decide⟩
  · refine run [] 20 ?_
    exact ⟨trivial, ⟨rfl, rfl⟩, by omega, by omega⟩
abbrev hh_tear : jj_HH := [(0, 12, 15, 21), (0, 12, 19, 15)]
theorem okH_tear : jj_MokH mL_tear hh_tear := ⟨jj_in_r11 _ (List.mem_of_getElem? (i := 9) rfl), l_ini, jj_in_r11 _ (List.mem_of_getElem? (i := 8) rfl), by decide, by decide, by decide +kernel⟩
theorem w_tear_ok {η : jj_H} {b q : Nat} {vs : List Value} {mc ms : Nat} {post : Option Value → jj_H → Prop} (p0 p1 p2 : Int32) (hb : η b = some (.inr (6, vs))) (h : jj_HX mX6_tear [.ref b, .int p0, .int p1, .int p2] η mc ms post (fun _ => False)) (hq : ∀ v η', post v η' → ∃ r f, v = some (.int r) ∧ η' q = some (x_l 1 f)) :
    jj_HtH mL_tear hh_tear [.ref b, .int p0, .int p1, .int p2, .ref q] η mc ms (fun v η' => v = some (.int 0) ∧ ∃ r η1 f, post (some (.int r)) η1 ∧ η1 q = some (x_l 1 f) ∧ η' = jj_up η1 q (x_l 1 (vp_updL f 0 r.toInt64))) := by
  refine jj_wgo tok_L_tear zok_L py_L rfl fun J run thr => ?_
  refine run [] 60 ?_
  refine ⟨_, hb, mc, ms, _, h.ret, by omega, by omega, fun v η' hv => ?_⟩
  obtain ⟨r, f, rfl, hf⟩ := hq v η' hv
  exact ⟨1, f, 0, hf, nI_0.symm, by decide, trivial, ⟨rfl, r, η', f, hv, hf, rfl⟩, by omega, by omega⟩
theorem w_tear_x1 {η : jj_H} {b q : Nat} {vs : List Value} {mc ms : Nat} (p0 p1 p2 : Int32) (hb : η b = some (.inr (6, vs))) (h : jj_HX mX6_tear [.ref b, .int p0, .int p1, .int p2] η mc ms (fun _ _ => False) (fun E => E = eI)) :
    jj_HtH mL_tear hh_tear [.ref b, .int p0, .int p1, .int p2, .ref q] η mc ms (fun v η' => v = some (.int (nI 1)) ∧ η' = η) := by
  refine jj_wgo tok_L_tear zok_L py_L rfl fun J run thr => ?_
  refine run [(7, 5)] 60 ?_
  refine thr (M' := mX6_tear) (index := 34) (a := 13) (c0 := 6) (as := [.int p0, .int p1, .int p2]) (b := b) (mc := mc) (ms := ms) (E0 := eI) (by decide +kernel) rfl (by decide) [] [(0, 12, 19, 15)] (0, 12, 15, 21) rfl ?_ (by decide) (by decide) l_eI k_eI rfl hb rfl rfl h (by omega) (by omega) fun q9 => ?_
  · intro y hy
    cases hy
  · refine run [] 20 ?_
    exact ⟨trivial, ⟨rfl, rfl⟩, by omega, by omega⟩
theorem w_tear_x2 {η : jj_H} {b q : Nat} {vs : List Value} {mc ms : Nat} (p0 p1 p2 : Int32) (hb : η b = some (.inr (6, vs))) (h : jj_HX mX6_tear [.ref b, .int p0, .int p1, .int p2] η mc ms (fun _ _ => False) (fun E => E = eS)) :
    jj_HtH mL_tear hh_tear [.ref b, .int p0, .int p1, .int p2, .ref q] η mc ms (fun v η' => v = some (.int (nI 2)) ∧ η' = η) := by
  refine jj_wgo tok_L_tear zok_L py_L rfl fun J run thr => ?_
  refine run [(7, 5)] 60 ?_
  refine thr (M' := mX6_tear) (index := 34) (a := 13) (c0 := 6) (as := [.int p0, .int p1, .int p2]) (b := b) (mc := mc) (ms := ms) (E0 := eS) (by decide +kernel) rfl (by decide) [(0, 12, 15, 21)] [] (0, 12, 19, 15) rfl ?_ (by decide) (by decide) l_eS k_eS rfl hb rfl rfl h (by omega) (by omega) fun q9 => ?_
  · intro y hy
    simp only [List.mem_cons, List.not_mem_nil, or_false] at hy
    subst hy
    exact ⟨by decide, _, l_eI, by decide⟩
  · refine run [] 20 ?_
    exact ⟨trivial, ⟨rfl, rfl⟩, by omega, by omega⟩
abbrev hh_forge : jj_HH := [(0, 12, 15, 21), (0, 12, 19, 13), (0, 12, 23, 15)]
theorem okH_forge : jj_MokH mL_forge hh_forge := ⟨jj_in_r14 _ (List.mem_of_getElem? (i := 13) rfl), l_ini, jj_in_r14 _ (List.mem_of_getElem? (i := 12) rfl), by decide, by decide, by decide +kernel⟩
theorem w_forge_ok {η : jj_H} {b q : Nat} {vs : List Value} {mc ms : Nat} {post : Option Value → jj_H → Prop} (p0 p1 p2 : Int32) (hb : η b = some (.inr (6, vs))) (h : jj_HX mX6_forge [.ref b, .int p0, .int p1, .int p2] η mc ms post (fun _ => False)) (hq : ∀ v η', post v η' → ∃ r f, v = some (.int r) ∧ η' q = some (x_l 1 f)) :
    jj_HtH mL_forge hh_forge [.ref b, .int p0, .int p1, .int p2, .ref q] η mc ms (fun v η' => v = some (.int 0) ∧ ∃ r η1 f, post (some (.int r)) η1 ∧ η1 q = some (x_l 1 f) ∧ η' = jj_up η1 q (x_l 1 (vp_updL f 0 r.toInt64))) := by
  refine jj_wgo tok_L_forge zok_L py_L rfl fun J run thr => ?_
  refine run [] 60 ?_
  refine ⟨_, hb, mc, ms, _, h.ret, by omega, by omega, fun v η' hv => ?_⟩
  obtain ⟨r, f, rfl, hf⟩ := hq v η' hv
  exact ⟨1, f, 0, hf, nI_0.symm, by decide, trivial, ⟨rfl, r, η', f, hv, hf, rfl⟩, by omega, by omega⟩
theorem w_forge_x1 {η : jj_H} {b q : Nat} {vs : List Value} {mc ms : Nat} (p0 p1 p2 : Int32) (hb : η b = some (.inr (6, vs))) (h : jj_HX mX6_forge [.ref b, .int p0, .int p1, .int p2] η mc ms (fun _ _ => False) (fun E => E = eI)) :
    jj_HtH mL_forge hh_forge [.ref b, .int p0, .int p1, .int p2, .ref q] η mc ms (fun v η' => v = some (.int (nI 1)) ∧ η' = η) := by
  refine jj_wgo tok_L_forge zok_L py_L rfl fun J run thr => ?_
  refine run [(7, 5)] 60 ?_
  refine thr (M' := mX6_forge) (index := 38) (a := 15) (c0 := 6) (as := [.int p0, .int p1, .int p2]) (b := b) (mc := mc) (ms := ms) (E0 := eI) (by decide +kernel) rfl (by decide) [] [(0, 12, 19, 13), (0, 12, 23, 15)] (0, 12, 15, 21) rfl ?_ (by decide) (by decide) l_eI k_eI rfl hb rfl rfl h (by omega) (by omega) fun q9 => ?_
  · intro y hy
    cases hy
  · refine run [] 20 ?_
    exact ⟨trivial, ⟨rfl, rfl⟩, by omega, by omega⟩
theorem w_forge_x2 {η : jj_H} {b q : Nat} {vs : List Value} {mc ms : Nat} (p0 p1 p2 : Int32) (hb : η b = some (.inr (6, vs))) (h : jj_HX mX6_forge [.ref b, .int p0, .int p1, .int p2] η mc ms (fun _ _ => False) (fun E => E = eA)) :
    jj_HtH mL_forge hh_forge [.ref b, .int p0, .int p1, .int p2, .ref q] η mc ms (fun v η' => v = some (.int (nI 2)) ∧ η' = η) := by
  refine jj_wgo tok_L_forge zok_L py_L rfl fun J run thr => ?_
  refine run [(7, 5)] 60 ?_
  refine thr (M' := mX6_forge) (index := 38) (a := 15) (c0 := 6) (as := [.int p0, .int p1, .int p2]) (b := b) (mc := mc) (ms := ms) (E0 := eA) (by decide +kernel) rfl (by decide) [(0, 12, 15, 21)] [(0, 12, 23, 15)] (0, 12, 19, 13) rfl ?_ (by decide) (by decide) l_eA k_eA rfl hb rfl rfl h (by omega) (by omega) fun q9 => ?_
  · intro y hy
    simp only [List.mem_cons, List.not_mem_nil, or_false] at hy
    subst hy
    exact ⟨by decide, _, l_eI, by decide⟩
  · refine run [] 20 ?_
    exact ⟨trivial, ⟨rfl, rfl⟩, by omega, by omega⟩
theorem w_forge_x3 {η : jj_H} {b q : Nat} {vs : List Value} {mc ms : Nat} (p0 p1 p2 : Int32) (hb : η b = some (.inr (6, vs))) (h : jj_HX mX6_forge [.ref b, .int p0, .int p1, .int p2] η mc ms (fun _ _ => False) (fun E => E = eS)) :
    jj_HtH mL_forge hh_forge [.ref b, .int p0, .int p1, .int p2, .ref q] η mc ms (fun v η' => v = some (.int (nI 3)) ∧ η' = η) := by
  refine jj_wgo tok_L_forge zok_L py_L rfl fun J run thr => ?_
  refine run [(7, 5)] 60 ?_
  refine thr (M' := mX6_forge) (index := 38) (a := 15) (c0 := 6) (as := [.int p0, .int p1, .int p2]) (b := b) (mc := mc) (ms := ms) (E0 := eS) (by decide +kernel) rfl (by decide) [(0, 12, 15, 21), (0, 12, 19, 13)] [] (0, 12, 23, 15) rfl ?_ (by decide) (by decide) l_eS k_eS rfl hb rfl rfl h (by omega) (by omega) fun q9 => ?_
  · intro y hy
    simp only [List.mem_cons, List.not_mem_nil, or_false] at hy
    rcases hy with rfl | rfl
    · exact ⟨by decide, _, l_eI, by decide⟩
    · exact ⟨by decide, _, l_eA, by decide⟩
  · refine run [] 20 ?_
    exact ⟨trivial, ⟨rfl, rfl⟩, by omega, by omega⟩
abbrev hh_stamp : jj_HH := [(0, 10, 13, 21)]
theorem okH_stamp : jj_MokH mL_stamp hh_stamp := ⟨jj_in_r16 _ (List.mem_of_getElem? (i := 1) rfl), l_ini, jj_in_r16 _ (List.mem_of_getElem? (i := 0) rfl), by decide, by decide, by decide +kernel⟩
theorem w_stamp_ok {η : jj_H} {b q : Nat} {vs : List Value} {mc ms : Nat} {post : Option Value → jj_H → Prop} (p0 p1 : Int32) (hb : η b = some (.inr (6, vs))) (h : jj_HX mX6_stamp [.ref b, .int p0, .int p1] η mc ms post (fun _ => False)) (hq : ∀ v η', post v η' → ∃ r f, v = some (.int r) ∧ η' q = some (x_l 1 f)) :
    jj_HtH mL_stamp hh_stamp [.ref b, .int p0, .int p1, .ref q] η mc ms (fun v η' => v = some (.int 0) ∧ ∃ r η1 f, post (some (.int r)) η1 ∧ η1 q = some (x_l 1 f) ∧ η' = jj_up η1 q (x_l 1 (vp_updL f 0 r.toInt64))) := by
  refine jj_wgo tok_L_stamp zok_L py_L rfl fun J run thr => ?_
  refine run [] 60 ?_
  refine ⟨_, hb, mc, ms, _, h.ret, by omega, by omega, fun v η' hv => ?_⟩
  obtain ⟨r, f, rfl, hf⟩ := hq v η' hv
  exact ⟨1, f, 0, hf, nI_0.symm, by decide, trivial, ⟨rfl, r, η', f, hv, hf, rfl⟩, by omega, by omega⟩
theorem w_stamp_x1 {η : jj_H} {b q : Nat} {vs : List Value} {mc ms : Nat} (p0 p1 : Int32) (hb : η b = some (.inr (6, vs))) (h : jj_HX mX6_stamp [.ref b, .int p0, .int p1] η mc ms (fun _ _ => False) (fun E => E = eI)) :
    jj_HtH mL_stamp hh_stamp [.ref b, .int p0, .int p1, .ref q] η mc ms (fun v η' => v = some (.int (nI 1)) ∧ η' = η) := by
  refine jj_wgo tok_L_stamp zok_L py_L rfl fun J run thr => ?_
  refine run [(5, 4)] 60 ?_
  refine thr (M' := mX6_stamp) (index := 41) (a := 17) (c0 := 6) (as := [.int p0, .int p1]) (b := b) (mc := mc) (ms := ms) (E0 := eI) (by decide +kernel) rfl (by decide) [] [] (0, 10, 13, 21) rfl ?_ (by decide) (by decide) l_eI k_eI rfl hb rfl rfl h (by omega) (by omega) fun q9 => ?_
  · intro y hy
    cases hy
  · refine run [] 20 ?_
    exact ⟨trivial, ⟨rfl, rfl⟩, by omega, by omega⟩
abbrev hh_fits : jj_HH := [(0, 19, 22, 21), (0, 19, 26, 13)]
theorem okH_fits : jj_MokH mL_fits hh_fits := ⟨jj_in_r18 _ (List.mem_of_getElem? (i := 11) rfl), l_ini, jj_in_r18 _ (List.mem_of_getElem? (i := 10) rfl), by decide, by decide, by decide +kernel⟩
theorem w_fits_ok {η : jj_H} {b q : Nat} {vs : List Value} {mc ms : Nat} {post : Option Value → jj_H → Prop} (p0 p1 p2 : Int32) (hb : η b = some (.inr (6, vs))) (h : jj_HX mX6_fits [.ref b, .int p0, .int p1, .int p2] η mc ms post (fun _ => False)) (hq : ∀ v η', post v η' → ∃ t f, v = some (.int (b01 t)) ∧ η' q = some (x_l 1 f)) :
    jj_HtH mL_fits hh_fits [.ref b, .int p0, .int p1, .int p2, .ref q] η mc ms (fun v η' => v = some (.int 0) ∧ ∃ r η1 f, post (some (.int r)) η1 ∧ η1 q = some (x_l 1 f) ∧ η' = jj_up η1 q (x_l 1 (vp_updL f 0 r.toInt64))) := by
  refine jj_wgo tok_L_fits zok_L py_L rfl fun J run thr => ?_
  refine run [] 60 ?_
  refine ⟨_, hb, mc, ms, _, h.ret, by omega, by omega, fun v η' hv => ?_⟩
  obtain ⟨t, f, rfl, hf⟩ := hq v η' hv
  refine ⟨fun c1 => ?_, fun c1 => ?_⟩
  · exact ⟨1, f, 0, hf, nI_0.symm, by decide, trivial, ⟨rfl, _, η', f, hv, hf, by rw [b01_eq0 c1]; rfl⟩, by omega, by omega⟩
  · exact ⟨1, f, 0, hf, nI_0.symm, by decide, trivial, ⟨rfl, _, η', f, hv, hf, by rw [b01_ne0 c1]; rfl⟩, by omega, by omega⟩
theorem w_fits_x1 {η : jj_H} {b q : Nat} {vs : List Value} {mc ms : Nat} (p0 p1 p2 : Int32) (hb : η b = some (.inr (6, vs))) (h : jj_HX mX6_fits [.ref b, .int p0, .int p1, .int p2] η mc ms (fun _ _ => False) (fun E => E = eI)) :
    jj_HtH mL_fits hh_fits [.ref b, .int p0, .int p1, .int p2, .ref q] η mc ms (fun v η' => v = some (.int (nI 1)) ∧ η' = η) := by
  refine jj_wgo tok_L_fits zok_L py_L rfl fun J run thr => ?_
  refine run [(7, 5)] 60 ?_
  refine thr (M' := mX6_fits) (index := 44) (a := 19) (c0 := 6) (as := [.int p0, .int p1, .int p2]) (b := b) (mc := mc) (ms := ms) (E0 := eI) (by decide +kernel) rfl (by decide) [] [(0, 19, 26, 13)] (0, 19, 22, 21) rfl ?_ (by decide) (by decide) l_eI k_eI rfl hb rfl rfl h (by omega) (by omega) fun q9 => ?_
  · intro y hy
    cases hy
  · refine run [] 20 ?_
    exact ⟨trivial, ⟨rfl, rfl⟩, by omega, by omega⟩
theorem w_fits_x2 {η : jj_H} {b q : Nat} {vs : List Value} {mc ms : Nat} (p0 p1 p2 : Int32) (hb : η b = some (.inr (6, vs))) (h : jj_HX mX6_fits [.ref b, .int p0, .int p1, .int p2] η mc ms (fun _ _ => False) (fun E => E = eA)) :
    jj_HtH mL_fits hh_fits [.ref b, .int p0, .int p1, .int p2, .ref q] η mc ms (fun v η' => v = some (.int (nI 2)) ∧ η' = η) := by
  refine jj_wgo tok_L_fits zok_L py_L rfl fun J run thr => ?_
  refine run [(7, 5)] 60 ?_
  refine thr (M' := mX6_fits) (index := 44) (a := 19) (c0 := 6) (as := [.int p0, .int p1, .int p2]) (b := b) (mc := mc) (ms := ms) (E0 := eA) (by decide +kernel) rfl (by decide) [(0, 19, 22, 21)] [] (0, 19, 26, 13) rfl ?_ (by decide) (by decide) l_eA k_eA rfl hb rfl rfl h (by omega) (by omega) fun q9 => ?_
  · intro y hy
    simp only [List.mem_cons, List.not_mem_nil, or_false] at hy
    subst hy
    exact ⟨by decide, _, l_eI, by decide⟩
  · refine run [] 20 ?_
    exact ⟨trivial, ⟨rfl, rfl⟩, by omega, by omega⟩
abbrev hh_fitting : jj_HH := [(0, 12, 15, 21)]
theorem okH_fitting : jj_MokH mL_fitting hh_fitting := ⟨jj_in_r19 _ (List.mem_of_getElem? (i := 15) rfl), l_ini, jj_in_r19 _ (List.mem_of_getElem? (i := 14) rfl), by decide, by decide, by decide +kernel⟩
theorem w_fitting_ok {η : jj_H} {b q : Nat} {vs : List Value} {mc ms : Nat} {post : Option Value → jj_H → Prop} (p0 p1 p2 : Int32) (hb : η b = some (.inr (6, vs))) (h : jj_HX mX6_fitting [.ref b, .int p0, .int p1, .int p2] η mc ms post (fun _ => False)) (hq : ∀ v η', post v η' → ∃ r f, v = some (.int r) ∧ η' q = some (x_l 1 f)) :
    jj_HtH mL_fitting hh_fitting [.ref b, .int p0, .int p1, .int p2, .ref q] η mc ms (fun v η' => v = some (.int 0) ∧ ∃ r η1 f, post (some (.int r)) η1 ∧ η1 q = some (x_l 1 f) ∧ η' = jj_up η1 q (x_l 1 (vp_updL f 0 r.toInt64))) := by
  refine jj_wgo tok_L_fitting zok_L py_L rfl fun J run thr => ?_
  refine run [] 60 ?_
  refine ⟨_, hb, mc, ms, _, h.ret, by omega, by omega, fun v η' hv => ?_⟩
  obtain ⟨r, f, rfl, hf⟩ := hq v η' hv
  exact ⟨1, f, 0, hf, nI_0.symm, by decide, trivial, ⟨rfl, r, η', f, hv, hf, rfl⟩, by omega, by omega⟩
theorem w_fitting_x1 {η : jj_H} {b q : Nat} {vs : List Value} {mc ms : Nat} (p0 p1 p2 : Int32) (hb : η b = some (.inr (6, vs))) (h : jj_HX mX6_fitting [.ref b, .int p0, .int p1, .int p2] η mc ms (fun _ _ => False) (fun E => E = eI)) :
    jj_HtH mL_fitting hh_fitting [.ref b, .int p0, .int p1, .int p2, .ref q] η mc ms (fun v η' => v = some (.int (nI 1)) ∧ η' = η) := by
  refine jj_wgo tok_L_fitting zok_L py_L rfl fun J run thr => ?_
  refine run [(7, 5)] 60 ?_
  refine thr (M' := mX6_fitting) (index := 48) (a := 21) (c0 := 6) (as := [.int p0, .int p1, .int p2]) (b := b) (mc := mc) (ms := ms) (E0 := eI) (by decide +kernel) rfl (by decide) [] [] (0, 12, 15, 21) rfl ?_ (by decide) (by decide) l_eI k_eI rfl hb rfl rfl h (by omega) (by omega) fun q9 => ?_
  · intro y hy
    cases hy
  · refine run [] 20 ?_
    exact ⟨trivial, ⟨rfl, rfl⟩, by omega, by omega⟩
abbrev hh_origin : jj_HH := [(0, 10, 13, 21)]
theorem okH_origin : jj_MokH mL_origin hh_origin := ⟨jj_in_r20 _ (List.mem_of_getElem? (i := 3) rfl), l_ini, jj_in_r20 _ (List.mem_of_getElem? (i := 2) rfl), by decide, by decide, by decide +kernel⟩
theorem w_origin_ok {η : jj_H} {b q : Nat} {vs : List Value} {mc ms : Nat} {post : Option Value → jj_H → Prop} (p0 p1 : Int32) (hb : η b = some (.inr (6, vs))) (h : jj_HX mX6_origin [.ref b, .int p0, .int p1] η mc ms post (fun _ => False)) (hq : ∀ v η', post v η' → ∃ r f, v = some (.int r) ∧ η' q = some (x_l 1 f)) :
    jj_HtH mL_origin hh_origin [.ref b, .int p0, .int p1, .ref q] η mc ms (fun v η' => v = some (.int 0) ∧ ∃ r η1 f, post (some (.int r)) η1 ∧ η1 q = some (x_l 1 f) ∧ η' = jj_up η1 q (x_l 1 (vp_updL f 0 r.toInt64))) := by
  refine jj_wgo tok_L_origin zok_L py_L rfl fun J run thr => ?_
  refine run [] 60 ?_
  refine ⟨_, hb, mc, ms, _, h.ret, by omega, by omega, fun v η' hv => ?_⟩
  obtain ⟨r, f, rfl, hf⟩ := hq v η' hv
  exact ⟨1, f, 0, hf, nI_0.symm, by decide, trivial, ⟨rfl, r, η', f, hv, hf, rfl⟩, by omega, by omega⟩
theorem w_origin_x1 {η : jj_H} {b q : Nat} {vs : List Value} {mc ms : Nat} (p0 p1 : Int32) (hb : η b = some (.inr (6, vs))) (h : jj_HX mX6_origin [.ref b, .int p0, .int p1] η mc ms (fun _ _ => False) (fun E => E = eI)) :
    jj_HtH mL_origin hh_origin [.ref b, .int p0, .int p1, .ref q] η mc ms (fun v η' => v = some (.int (nI 1)) ∧ η' = η) := by
  refine jj_wgo tok_L_origin zok_L py_L rfl fun J run thr => ?_
  refine run [(5, 4)] 60 ?_
  refine thr (M' := mX6_origin) (index := 51) (a := 23) (c0 := 6) (as := [.int p0, .int p1]) (b := b) (mc := mc) (ms := ms) (E0 := eI) (by decide +kernel) rfl (by decide) [] [] (0, 10, 13, 21) rfl ?_ (by decide) (by decide) l_eI k_eI rfl hb rfl rfl h (by omega) (by omega) fun q9 => ?_
  · intro y hy
    cases hy
  · refine run [] 20 ?_
    exact ⟨trivial, ⟨rfl, rfl⟩, by omega, by omega⟩
abbrev hh_mount : jj_HH := [(0, 12, 15, 21), (0, 12, 19, 13), (0, 12, 23, 15)]
theorem okH_mount : jj_MokH mL_mount hh_mount := ⟨jj_in_r21 _ (List.mem_of_getElem? (i := 23) rfl), l_ini, jj_in_r21 _ (List.mem_of_getElem? (i := 22) rfl), by decide, by decide, by decide +kernel⟩
theorem w_mount_ok {η : jj_H} {b q : Nat} {vs : List Value} {mc ms : Nat} {post : Option Value → jj_H → Prop} (p0 p1 p2 : Int32) (hb : η b = some (.inr (6, vs))) (h : jj_HX mX6_mount [.ref b, .int p0, .int p1, .int p2] η mc ms post (fun _ => False)) (hq : ∀ v η', post v η' → ∃ r f, v = some (.int r) ∧ η' q = some (x_l 1 f)) :
    jj_HtH mL_mount hh_mount [.ref b, .int p0, .int p1, .int p2, .ref q] η mc ms (fun v η' => v = some (.int 0) ∧ ∃ r η1 f, post (some (.int r)) η1 ∧ η1 q = some (x_l 1 f) ∧ η' = jj_up η1 q (x_l 1 (vp_updL f 0 r.toInt64))) := by
  refine jj_wgo tok_L_mount zok_L py_L rfl fun J run thr => ?_
  refine run [] 60 ?_
  refine ⟨_, hb, mc, ms, _, h.ret, by omega, by omega, fun v η' hv => ?_⟩
  obtain ⟨r, f, rfl, hf⟩ := hq v η' hv
  exact ⟨1, f, 0, hf, nI_0.symm, by decide, trivial, ⟨rfl, r, η', f, hv, hf, rfl⟩, by omega, by omega⟩
theorem w_mount_x1 {η : jj_H} {b q : Nat} {vs : List Value} {mc ms : Nat} (p0 p1 p2 : Int32) (hb : η b = some (.inr (6, vs))) (h : jj_HX mX6_mount [.ref b, .int p0, .int p1, .int p2] η mc ms (fun _ _ => False) (fun E => E = eI)) :
    jj_HtH mL_mount hh_mount [.ref b, .int p0, .int p1, .int p2, .ref q] η mc ms (fun v η' => v = some (.int (nI 1)) ∧ η' = η) := by
  refine jj_wgo tok_L_mount zok_L py_L rfl fun J run thr => ?_
  refine run [(7, 5)] 60 ?_
  refine thr (M' := mX6_mount) (index := 54) (a := 25) (c0 := 6) (as := [.int p0, .int p1, .int p2]) (b := b) (mc := mc) (ms := ms) (E0 := eI) (by decide +kernel) rfl (by decide) [] [(0, 12, 19, 13), (0, 12, 23, 15)] (0, 12, 15, 21) rfl ?_ (by decide) (by decide) l_eI k_eI rfl hb rfl rfl h (by omega) (by omega) fun q9 => ?_
  · intro y hy
    cases hy
  · refine run [] 20 ?_
    exact ⟨trivial, ⟨rfl, rfl⟩, by omega, by omega⟩
theorem w_mount_x2 {η : jj_H} {b q : Nat} {vs : List Value} {mc ms : Nat} (p0 p1 p2 : Int32) (hb : η b = some (.inr (6, vs))) (h : jj_HX mX6_mount [.ref b, .int p0, .int p1, .int p2] η mc ms (fun _ _ => False) (fun E => E = eA)) :
    jj_HtH mL_mount hh_mount [.ref b, .int p0, .int p1, .int p2, .ref q] η mc ms (fun v η' => v = some (.int (nI 2)) ∧ η' = η) := by
  refine jj_wgo tok_L_mount zok_L py_L rfl fun J run thr => ?_
  refine run [(7, 5)] 60 ?_
  refine thr (M' := mX6_mount) (index := 54) (a := 25) (c0 := 6) (as := [.int p0, .int p1, .int p2]) (b := b) (mc := mc) (ms := ms) (E0 := eA) (by decide +kernel) rfl (by decide) [(0, 12, 15, 21)] [(0, 12, 23, 15)] (0, 12, 19, 13) rfl ?_ (by decide) (by decide) l_eA k_eA rfl hb rfl rfl h (by omega) (by omega) fun q9 => ?_
  · intro y hy
    simp only [List.mem_cons, List.not_mem_nil, or_false] at hy
    subst hy
    exact ⟨by decide, _, l_eI, by decide⟩
  · refine run [] 20 ?_
    exact ⟨trivial, ⟨rfl, rfl⟩, by omega, by omega⟩
theorem w_mount_x3 {η : jj_H} {b q : Nat} {vs : List Value} {mc ms : Nat} (p0 p1 p2 : Int32) (hb : η b = some (.inr (6, vs))) (h : jj_HX mX6_mount [.ref b, .int p0, .int p1, .int p2] η mc ms (fun _ _ => False) (fun E => E = eS)) :
    jj_HtH mL_mount hh_mount [.ref b, .int p0, .int p1, .int p2, .ref q] η mc ms (fun v η' => v = some (.int (nI 3)) ∧ η' = η) := by
  refine jj_wgo tok_L_mount zok_L py_L rfl fun J run thr => ?_
  refine run [(7, 5)] 60 ?_
  refine thr (M' := mX6_mount) (index := 54) (a := 25) (c0 := 6) (as := [.int p0, .int p1, .int p2]) (b := b) (mc := mc) (ms := ms) (E0 := eS) (by decide +kernel) rfl (by decide) [(0, 12, 15, 21), (0, 12, 19, 13)] [] (0, 12, 23, 15) rfl ?_ (by decide) (by decide) l_eS k_eS rfl hb rfl rfl h (by omega) (by omega) fun q9 => ?_
  · intro y hy
    simp only [List.mem_cons, List.not_mem_nil, or_false] at hy
    rcases hy with rfl | rfl
    · exact ⟨by decide, _, l_eI, by decide⟩
    · exact ⟨by decide, _, l_eA, by decide⟩
  · refine run [] 20 ?_
    exact ⟨trivial, ⟨rfl, rfl⟩, by omega, by omega⟩
abbrev hh_release : jj_HH := [(0, 9, 12, 21), (0, 9, 15, 15)]
theorem okH_release : jj_MokH mL_release hh_release := ⟨jj_in_r23 _ (List.mem_of_getElem? (i := 20) rfl), l_ini, jj_in_r23 _ (List.mem_of_getElem? (i := 19) rfl), by decide, by decide, by decide +kernel⟩
theorem w_release_ok {η : jj_H} {b q : Nat} {vs : List Value} {mc ms : Nat} {post : Option Value → jj_H → Prop} (p0 : Int32) (hb : η b = some (.inr (6, vs))) (h : jj_HX mX6_release [.ref b, .int p0] η mc ms post (fun _ => False)) (hq : ∀ v η', post v η' → ∃ r f, v = some (.int r) ∧ η' q = some (x_l 1 f)) :
    jj_HtH mL_release hh_release [.ref b, .int p0, .ref q] η mc ms (fun v η' => v = some (.int 0) ∧ ∃ r η1 f, post (some (.int r)) η1 ∧ η1 q = some (x_l 1 f) ∧ η' = jj_up η1 q (x_l 1 (vp_updL f 0 r.toInt64))) := by
  refine jj_wgo tok_L_release zok_L py_L rfl fun J run thr => ?_
  refine run [] 60 ?_
  refine ⟨_, hb, mc, ms, _, h.ret, by omega, by omega, fun v η' hv => ?_⟩
  obtain ⟨r, f, rfl, hf⟩ := hq v η' hv
  exact ⟨1, f, 0, hf, nI_0.symm, by decide, trivial, ⟨rfl, r, η', f, hv, hf, rfl⟩, by omega, by omega⟩
theorem w_release_x1 {η : jj_H} {b q : Nat} {vs : List Value} {mc ms : Nat} (p0 : Int32) (hb : η b = some (.inr (6, vs))) (h : jj_HX mX6_release [.ref b, .int p0] η mc ms (fun _ _ => False) (fun E => E = eI)) :
    jj_HtH mL_release hh_release [.ref b, .int p0, .ref q] η mc ms (fun v η' => v = some (.int (nI 1)) ∧ η' = η) := by
  refine jj_wgo tok_L_release zok_L py_L rfl fun J run thr => ?_
  refine run [(4, 3)] 60 ?_
  refine thr (M' := mX6_release) (index := 57) (a := 27) (c0 := 6) (as := [.int p0]) (b := b) (mc := mc) (ms := ms) (E0 := eI) (by decide +kernel) rfl (by decide) [] [(0, 9, 15, 15)] (0, 9, 12, 21) rfl ?_ (by decide) (by decide) l_eI k_eI rfl hb rfl rfl h (by omega) (by omega) fun q9 => ?_
  · intro y hy
    cases hy
  · refine run [] 20 ?_
    exact ⟨trivial, ⟨rfl, rfl⟩, by omega, by omega⟩
theorem w_release_x2 {η : jj_H} {b q : Nat} {vs : List Value} {mc ms : Nat} (p0 : Int32) (hb : η b = some (.inr (6, vs))) (h : jj_HX mX6_release [.ref b, .int p0] η mc ms (fun _ _ => False) (fun E => E = eS)) :
    jj_HtH mL_release hh_release [.ref b, .int p0, .ref q] η mc ms (fun v η' => v = some (.int (nI 2)) ∧ η' = η) := by
  refine jj_wgo tok_L_release zok_L py_L rfl fun J run thr => ?_
  refine run [(4, 3)] 60 ?_
  refine thr (M' := mX6_release) (index := 57) (a := 27) (c0 := 6) (as := [.int p0]) (b := b) (mc := mc) (ms := ms) (E0 := eS) (by decide +kernel) rfl (by decide) [(0, 9, 12, 21)] [] (0, 9, 15, 15) rfl ?_ (by decide) (by decide) l_eS k_eS rfl hb rfl rfl h (by omega) (by omega) fun q9 => ?_
  · intro y hy
    simp only [List.mem_cons, List.not_mem_nil, or_false] at hy
    subst hy
    exact ⟨by decide, _, l_eI, by decide⟩
  · refine run [] 20 ?_
    exact ⟨trivial, ⟨rfl, rfl⟩, by omega, by omega⟩
abbrev hh_at : jj_HH := [(0, 10, 13, 21)]
theorem okH_at : jj_MokH mL_at hh_at := ⟨jj_in_r24 _ (List.mem_of_getElem? (i := 12) rfl), l_ini, jj_in_r24 _ (List.mem_of_getElem? (i := 11) rfl), by decide, by decide, by decide +kernel⟩
theorem w_at_ok {η : jj_H} {b q : Nat} {vs : List Value} {mc ms : Nat} {post : Option Value → jj_H → Prop} (p0 p1 : Int32) (hb : η b = some (.inr (6, vs))) (h : jj_HX mX6_at [.ref b, .int p0, .int p1] η mc ms post (fun _ => False)) (hq : ∀ v η', post v η' → ∃ r f, v = some (.int r) ∧ η' q = some (x_l 1 f)) :
    jj_HtH mL_at hh_at [.ref b, .int p0, .int p1, .ref q] η mc ms (fun v η' => v = some (.int 0) ∧ ∃ r η1 f, post (some (.int r)) η1 ∧ η1 q = some (x_l 1 f) ∧ η' = jj_up η1 q (x_l 1 (vp_updL f 0 r.toInt64))) := by
  refine jj_wgo tok_L_at zok_L py_L rfl fun J run thr => ?_
  refine run [] 60 ?_
  refine ⟨_, hb, mc, ms, _, h.ret, by omega, by omega, fun v η' hv => ?_⟩
  obtain ⟨r, f, rfl, hf⟩ := hq v η' hv
  exact ⟨1, f, 0, hf, nI_0.symm, by decide, trivial, ⟨rfl, r, η', f, hv, hf, rfl⟩, by omega, by omega⟩
theorem w_at_x1 {η : jj_H} {b q : Nat} {vs : List Value} {mc ms : Nat} (p0 p1 : Int32) (hb : η b = some (.inr (6, vs))) (h : jj_HX mX6_at [.ref b, .int p0, .int p1] η mc ms (fun _ _ => False) (fun E => E = eI)) :
    jj_HtH mL_at hh_at [.ref b, .int p0, .int p1, .ref q] η mc ms (fun v η' => v = some (.int (nI 1)) ∧ η' = η) := by
  refine jj_wgo tok_L_at zok_L py_L rfl fun J run thr => ?_
  refine run [(5, 4)] 60 ?_
  refine thr (M' := mX6_at) (index := 61) (a := 29) (c0 := 6) (as := [.int p0, .int p1]) (b := b) (mc := mc) (ms := ms) (E0 := eI) (by decide +kernel) rfl (by decide) [] [] (0, 10, 13, 21) rfl ?_ (by decide) (by decide) l_eI k_eI rfl hb rfl rfl h (by omega) (by omega) fun q9 => ?_
  · intro y hy
    cases hy
  · refine run [] 20 ?_
    exact ⟨trivial, ⟨rfl, rfl⟩, by omega, by omega⟩
abbrev hh_advise : jj_HH := [(0, 9, 12, 21), (0, 9, 15, 15)]
theorem okH_advise : jj_MokH mL_advise hh_advise := ⟨jj_in_r24 _ (List.mem_of_getElem? (i := 23) rfl), l_ini, jj_in_r24 _ (List.mem_of_getElem? (i := 22) rfl), by decide, by decide, by decide +kernel⟩
theorem w_advise_ok {η : jj_H} {b q : Nat} {vs : List Value} {mc ms : Nat} {post : Option Value → jj_H → Prop} (p0 : Int32) (hb : η b = some (.inr (6, vs))) (h : jj_HX mX6_advise [.ref b, .int p0] η mc ms post (fun _ => False)) (hq : ∀ v η', post v η' → ∃ r f, v = some (.int r) ∧ η' q = some (x_l 1 f)) :
    jj_HtH mL_advise hh_advise [.ref b, .int p0, .ref q] η mc ms (fun v η' => v = some (.int 0) ∧ ∃ r η1 f, post (some (.int r)) η1 ∧ η1 q = some (x_l 1 f) ∧ η' = jj_up η1 q (x_l 1 (vp_updL f 0 r.toInt64))) := by
  refine jj_wgo tok_L_advise zok_L py_L rfl fun J run thr => ?_
  refine run [] 60 ?_
  refine ⟨_, hb, mc, ms, _, h.ret, by omega, by omega, fun v η' hv => ?_⟩
  obtain ⟨r, f, rfl, hf⟩ := hq v η' hv
  exact ⟨1, f, 0, hf, nI_0.symm, by decide, trivial, ⟨rfl, r, η', f, hv, hf, rfl⟩, by omega, by omega⟩
theorem w_advise_x1 {η : jj_H} {b q : Nat} {vs : List Value} {mc ms : Nat} (p0 : Int32) (hb : η b = some (.inr (6, vs))) (h : jj_HX mX6_advise [.ref b, .int p0] η mc ms (fun _ _ => False) (fun E => E = eI)) :
    jj_HtH mL_advise hh_advise [.ref b, .int p0, .ref q] η mc ms (fun v η' => v = some (.int (nI 1)) ∧ η' = η) := by
  refine jj_wgo tok_L_advise zok_L py_L rfl fun J run thr => ?_
  refine run [(4, 3)] 60 ?_
  refine thr (M' := mX6_advise) (index := 64) (a := 31) (c0 := 6) (as := [.int p0]) (b := b) (mc := mc) (ms := ms) (E0 := eI) (by decide +kernel) rfl (by decide) [] [(0, 9, 15, 15)] (0, 9, 12, 21) rfl ?_ (by decide) (by decide) l_eI k_eI rfl hb rfl rfl h (by omega) (by omega) fun q9 => ?_
  · intro y hy
    cases hy
  · refine run [] 20 ?_
    exact ⟨trivial, ⟨rfl, rfl⟩, by omega, by omega⟩
theorem w_advise_x2 {η : jj_H} {b q : Nat} {vs : List Value} {mc ms : Nat} (p0 : Int32) (hb : η b = some (.inr (6, vs))) (h : jj_HX mX6_advise [.ref b, .int p0] η mc ms (fun _ _ => False) (fun E => E = eS)) :
    jj_HtH mL_advise hh_advise [.ref b, .int p0, .ref q] η mc ms (fun v η' => v = some (.int (nI 2)) ∧ η' = η) := by
  refine jj_wgo tok_L_advise zok_L py_L rfl fun J run thr => ?_
  refine run [(4, 3)] 60 ?_
  refine thr (M' := mX6_advise) (index := 64) (a := 31) (c0 := 6) (as := [.int p0]) (b := b) (mc := mc) (ms := ms) (E0 := eS) (by decide +kernel) rfl (by decide) [(0, 9, 12, 21)] [] (0, 9, 15, 15) rfl ?_ (by decide) (by decide) l_eS k_eS rfl hb rfl rfl h (by omega) (by omega) fun q9 => ?_
  · intro y hy
    simp only [List.mem_cons, List.not_mem_nil, or_false] at hy
    subst hy
    exact ⟨by decide, _, l_eI, by decide⟩
  · refine run [] 20 ?_
    exact ⟨trivial, ⟨rfl, rfl⟩, by omega, by omega⟩
abbrev hh_count : jj_HH := [(0, 9, 12, 21)]
theorem okH_count : jj_MokH mL_count hh_count := ⟨jj_in_r25 _ (List.mem_of_getElem? (i := 15) rfl), l_ini, jj_in_r25 _ (List.mem_of_getElem? (i := 14) rfl), by decide, by decide, by decide +kernel⟩
theorem w_count_ok {η : jj_H} {b q : Nat} {vs : List Value} {mc ms : Nat} {post : Option Value → jj_H → Prop} (p0 : Int32) (hb : η b = some (.inr (6, vs))) (h : jj_HX mX6_count [.ref b, .int p0] η mc ms post (fun _ => False)) (hq : ∀ v η', post v η' → ∃ r f, v = some (.int r) ∧ η' q = some (x_l 1 f)) :
    jj_HtH mL_count hh_count [.ref b, .int p0, .ref q] η mc ms (fun v η' => v = some (.int 0) ∧ ∃ r η1 f, post (some (.int r)) η1 ∧ η1 q = some (x_l 1 f) ∧ η' = jj_up η1 q (x_l 1 (vp_updL f 0 r.toInt64))) := by
  refine jj_wgo tok_L_count zok_L py_L rfl fun J run thr => ?_
  refine run [] 60 ?_
  refine ⟨_, hb, mc, ms, _, h.ret, by omega, by omega, fun v η' hv => ?_⟩
  obtain ⟨r, f, rfl, hf⟩ := hq v η' hv
  exact ⟨1, f, 0, hf, nI_0.symm, by decide, trivial, ⟨rfl, r, η', f, hv, hf, rfl⟩, by omega, by omega⟩
theorem w_count_x1 {η : jj_H} {b q : Nat} {vs : List Value} {mc ms : Nat} (p0 : Int32) (hb : η b = some (.inr (6, vs))) (h : jj_HX mX6_count [.ref b, .int p0] η mc ms (fun _ _ => False) (fun E => E = eI)) :
    jj_HtH mL_count hh_count [.ref b, .int p0, .ref q] η mc ms (fun v η' => v = some (.int (nI 1)) ∧ η' = η) := by
  refine jj_wgo tok_L_count zok_L py_L rfl fun J run thr => ?_
  refine run [(4, 3)] 60 ?_
  refine thr (M' := mX6_count) (index := 67) (a := 33) (c0 := 6) (as := [.int p0]) (b := b) (mc := mc) (ms := ms) (E0 := eI) (by decide +kernel) rfl (by decide) [] [] (0, 9, 12, 21) rfl ?_ (by decide) (by decide) l_eI k_eI rfl hb rfl rfl h (by omega) (by omega) fun q9 => ?_
  · intro y hy
    cases hy
  · refine run [] 20 ?_
    exact ⟨trivial, ⟨rfl, rfl⟩, by omega, by omega⟩
