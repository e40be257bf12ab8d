/-! THE LAW's SIXTEEN PLAIN CASES (written by wip/whole/gen88.py) -/
theorem dL_134 : decode (jj_code mL_law) 134 = .ok (.iaload, 1) := by decide +kernel
theorem dL_140 : decode (jj_code mL_law) 140 = .ok (.iaload, 1) := by decide +kernel
theorem dL_153 : decode (jj_code mL_law) 153 = .ok (.iaload, 1) := by decide +kernel
theorem dL_159 : decode (jj_code mL_law) 159 = .ok (.iaload, 1) := by decide +kernel
theorem dL_142 : decode (jj_code mL_law) 142 = .ok (.invokestatic 74, 3) := by decide +kernel
theorem lnk_addPlate : Cond.methodLink (jj_nm mL_law).cls 74 (jj_nm mL_addPlate) ∈ jj_G := by decide +kernel
theorem L_addPlate {RC RS b L : Nat} {xs : Nat → Int32} {J : jj_K} {X Y : Nat → Nat} {q C S j k n : Nat} {σ : jj_S} {th : Int32} {f : Nat → Int64} {η : jj_H} (hJ : lw_J RC RS b L xs J) (hL : L ≤ 3584) (hj : 7 * j + 7 ≤ L) (hN : lw_H b L X Y q C S J 1412 j) (hI : w_I X Y q σ th f η) (hk : k + 8 ≤ C) (hn : n + 160 ≤ S) (hC : C ≤ RC) (hS : S ≤ RS) : J η k n 128 [(0, .ref b), (1, .ref (X 0)), (2, .ref (Y 0)), (3, .ref q), (4, .int (nI (7 * j)))] [] := by
  obtain ⟨run, sd, -, sc, -, -⟩ := hJ
  obtain ⟨c, mc, ms, P, hP, b1, b2, hp⟩ := o_addPlate hI (xs (nI (7 * j) + nI 1).toNatClampNeg) (xs (nI (7 * j) + nI 2).toNatClampNeg)
  refine run [] 12 ?_
  refine sd dL_134 (w_in hL (by omega)) ?_
  refine run [] 12 ?_
  refine sd dL_140 (w_in hL (by omega)) ?_
  refine run [] 12 ?_
  refine sc (as := [.ref (X 0), .int (xs (nI (7 * j) + nI 1).toNatClampNeg), .int (xs (nI (7 * j) + nI 2).toNatClampNeg), .ref q]) (rest := []) dL_142 lnk_addPlate okH_addPlate (by decide) rfl rfl rfl hP (by omega) (by omega) fun v η1 hv => ?_
  obtain ⟨rfl, ⟨vs, hy⟩, mc2, ms2, P2, hM, b3, b4, h2⟩ := hp v η1 hv
  refine run [] 12 ?_
  refine sd dL_153 (w_in hL (by omega)) ?_
  refine run [] 12 ?_
  refine sd dL_159 (w_in hL (by omega)) ?_
  refine run [(1412, 5)] 40 ?_
  refine ⟨vs, hy, mc2, ms2, P2, hM, by omega, by omega, fun v2 η2 hv2 => ?_⟩
  obtain ⟨y, σ', f', rfl, hI', hc⟩ := h2 v2 η2 hv2
  obtain ⟨α', τ', hx', hm', ht', hq', hf'⟩ := id hI'
  refine ⟨_, hm'.o, 0, 0, _, c_thrown hm', by omega, by omega, fun v3 η3 hv3 => ?_⟩
  obtain ⟨rfl, rfl⟩ := hv3
  refine ⟨fun c1 => ?_, fun c1 => absurd (cb_eq.mpr rfl) c1⟩
  refine ⟨fun c2 => hN _ _ _ _ _ _ hI' (by omega) (by omega), fun c2 => ?_⟩
  obtain ⟨e1, e2⟩ := hc (Classical.not_not.mp c2)
  refine ⟨1, f', 0, hf', nI_0.symm, by decide, ?_⟩
  have e3 : lg_cmp (f' 0) y.toInt64 = 0 := by rw [e1]; exact lg_same _
  exact ⟨fun c3 => hN _ _ _ _ _ _ hI' (by omega) (by omega), fun c3 => absurd e3 c3⟩
theorem dL_202 : decode (jj_code mL_law) 202 = .ok (.iaload, 1) := by decide +kernel
theorem dL_208 : decode (jj_code mL_law) 208 = .ok (.iaload, 1) := by decide +kernel
theorem dL_214 : decode (jj_code mL_law) 214 = .ok (.iaload, 1) := by decide +kernel
theorem dL_220 : decode (jj_code mL_law) 220 = .ok (.iaload, 1) := by decide +kernel
theorem dL_226 : decode (jj_code mL_law) 226 = .ok (.iaload, 1) := by decide +kernel
theorem dL_233 : decode (jj_code mL_law) 233 = .ok (.iaload, 1) := by decide +kernel
theorem dL_246 : decode (jj_code mL_law) 246 = .ok (.iaload, 1) := by decide +kernel
theorem dL_252 : decode (jj_code mL_law) 252 = .ok (.iaload, 1) := by decide +kernel
theorem dL_258 : decode (jj_code mL_law) 258 = .ok (.iaload, 1) := by decide +kernel
theorem dL_264 : decode (jj_code mL_law) 264 = .ok (.iaload, 1) := by decide +kernel
theorem dL_270 : decode (jj_code mL_law) 270 = .ok (.iaload, 1) := by decide +kernel
theorem dL_277 : decode (jj_code mL_law) 277 = .ok (.iaload, 1) := by decide +kernel
theorem dL_235 : decode (jj_code mL_law) 235 = .ok (.invokestatic 84, 3) := by decide +kernel
theorem lnk_addFlaw : Cond.methodLink (jj_nm mL_law).cls 84 (jj_nm mL_addFlaw) ∈ jj_G := by decide +kernel
theorem L_addFlaw {RC RS b L : Nat} {xs : Nat → Int32} {J : jj_K} {X Y : Nat → Nat} {q C S j k n : Nat} {σ : jj_S} {th : Int32} {f : Nat → Int64} {η : jj_H} (hJ : lw_J RC RS b L xs J) (hL : L ≤ 3584) (hj : 7 * j + 7 ≤ L) (hN : lw_H b L X Y q C S J 1412 j) (hI : w_I X Y q σ th f η) (hk : k + 8 ≤ C) (hn : n + 160 ≤ S) (hC : C ≤ RC) (hS : S ≤ RS) : J η k n 196 [(0, .ref b), (1, .ref (X 0)), (2, .ref (Y 0)), (3, .ref q), (4, .int (nI (7 * j)))] [] := by
  obtain ⟨run, sd, -, sc, -, -⟩ := hJ
  obtain ⟨c, mc, ms, P, hP, b1, b2, hp⟩ := o_addFlaw hI (xs (nI (7 * j) + nI 1).toNatClampNeg) (xs (nI (7 * j) + nI 2).toNatClampNeg) (xs (nI (7 * j) + nI 3).toNatClampNeg) (xs (nI (7 * j) + nI 4).toNatClampNeg) (xs (nI (7 * j) + nI 5).toNatClampNeg) (xs (nI (7 * j) + nI 6).toNatClampNeg)
  refine run [] 12 ?_
  refine sd dL_202 (w_in hL (by omega)) ?_
  refine run [] 12 ?_
  refine sd dL_208 (w_in hL (by omega)) ?_
  refine run [] 12 ?_
  refine sd dL_214 (w_in hL (by omega)) ?_
  refine run [] 12 ?_
  refine sd dL_220 (w_in hL (by omega)) ?_
  refine run [] 12 ?_
  refine sd dL_226 (w_in hL (by omega)) ?_
  refine run [] 12 ?_
  refine sd dL_233 (w_in hL (by omega)) ?_
  refine run [] 12 ?_
  refine sc (as := [.ref (X 0), .int (xs (nI (7 * j) + nI 1).toNatClampNeg), .int (xs (nI (7 * j) + nI 2).toNatClampNeg), .int (xs (nI (7 * j) + nI 3).toNatClampNeg), .int (xs (nI (7 * j) + nI 4).toNatClampNeg), .int (xs (nI (7 * j) + nI 5).toNatClampNeg), .int (xs (nI (7 * j) + nI 6).toNatClampNeg), .ref q]) (rest := []) dL_235 lnk_addFlaw okH_addFlaw (by decide) rfl rfl rfl hP (by omega) (by omega) fun v η1 hv => ?_
  obtain ⟨rfl, ⟨vs, hy⟩, mc2, ms2, P2, hM, b3, b4, h2⟩ := hp v η1 hv
  refine run [] 12 ?_
  refine sd dL_246 (w_in hL (by omega)) ?_
  refine run [] 12 ?_
  refine sd dL_252 (w_in hL (by omega)) ?_
  refine run [] 12 ?_
  refine sd dL_258 (w_in hL (by omega)) ?_
  refine run [] 12 ?_
  refine sd dL_264 (w_in hL (by omega)) ?_
  refine run [] 12 ?_
  refine sd dL_270 (w_in hL (by omega)) ?_
  refine run [] 12 ?_
  refine sd dL_277 (w_in hL (by omega)) ?_
  refine run [(1412, 5)] 40 ?_
  refine ⟨vs, hy, mc2, ms2, P2, hM, by omega, by omega, fun v2 η2 hv2 => ?_⟩
  obtain ⟨y, σ', f', rfl, hI', hc⟩ := h2 v2 η2 hv2
  obtain ⟨α', τ', hx', hm', ht', hq', hf'⟩ := id hI'
  refine ⟨_, hm'.o, 0, 0, _, c_thrown hm', by omega, by omega, fun v3 η3 hv3 => ?_⟩
  obtain ⟨rfl, rfl⟩ := hv3
  refine ⟨fun c1 => ?_, fun c1 => absurd (cb_eq.mpr rfl) c1⟩
  refine ⟨fun c2 => hN _ _ _ _ _ _ hI' (by omega) (by omega), fun c2 => ?_⟩
  obtain ⟨e1, e2⟩ := hc (Classical.not_not.mp c2)
  refine ⟨1, f', 0, hf', nI_0.symm, by decide, ?_⟩
  have e3 : lg_cmp (f' 0) y.toInt64 = 0 := by rw [e1]; exact lg_same _
  exact ⟨fun c3 => hN _ _ _ _ _ _ hI' (by omega) (by omega), fun c3 => absurd e3 c3⟩
theorem dL_320 : decode (jj_code mL_law) 320 = .ok (.iaload, 1) := by decide +kernel
theorem dL_326 : decode (jj_code mL_law) 326 = .ok (.iaload, 1) := by decide +kernel
theorem dL_339 : decode (jj_code mL_law) 339 = .ok (.iaload, 1) := by decide +kernel
theorem dL_345 : decode (jj_code mL_law) 345 = .ok (.iaload, 1) := by decide +kernel
theorem dL_328 : decode (jj_code mL_law) 328 = .ok (.invokestatic 88, 3) := by decide +kernel
theorem lnk_addPaper : Cond.methodLink (jj_nm mL_law).cls 88 (jj_nm mL_addPaper) ∈ jj_G := by decide +kernel
theorem L_addPaper {RC RS b L : Nat} {xs : Nat → Int32} {J : jj_K} {X Y : Nat → Nat} {q C S j k n : Nat} {σ : jj_S} {th : Int32} {f : Nat → Int64} {η : jj_H} (hJ : lw_J RC RS b L xs J) (hL : L ≤ 3584) (hj : 7 * j + 7 ≤ L) (hN : lw_H b L X Y q C S J 1412 j) (hI : w_I X Y q σ th f η) (hk : k + 8 ≤ C) (hn : n + 160 ≤ S) (hC : C ≤ RC) (hS : S ≤ RS) : J η k n 314 [(0, .ref b), (1, .ref (X 0)), (2, .ref (Y 0)), (3, .ref q), (4, .int (nI (7 * j)))] [] := by
  obtain ⟨run, sd, -, sc, -, -⟩ := hJ
  obtain ⟨c, mc, ms, P, hP, b1, b2, hp⟩ := o_addPaper hI (xs (nI (7 * j) + nI 1).toNatClampNeg) (xs (nI (7 * j) + nI 2).toNatClampNeg)
  refine run [] 12 ?_
  refine sd dL_320 (w_in hL (by omega)) ?_
  refine run [] 12 ?_
  refine sd dL_326 (w_in hL (by omega)) ?_
  refine run [] 12 ?_
  refine sc (as := [.ref (X 0), .int (xs (nI (7 * j) + nI 1).toNatClampNeg), .int (xs (nI (7 * j) + nI 2).toNatClampNeg), .ref q]) (rest := []) dL_328 lnk_addPaper okH_addPaper (by decide) rfl rfl rfl hP (by omega) (by omega) fun v η1 hv => ?_
  obtain ⟨rfl, ⟨vs, hy⟩, mc2, ms2, P2, hM, b3, b4, h2⟩ := hp v η1 hv
  refine run [] 12 ?_
  refine sd dL_339 (w_in hL (by omega)) ?_
  refine run [] 12 ?_
  refine sd dL_345 (w_in hL (by omega)) ?_
  refine run [(1412, 5)] 40 ?_
  refine ⟨vs, hy, mc2, ms2, P2, hM, by omega, by omega, fun v2 η2 hv2 => ?_⟩
  obtain ⟨y, σ', f', rfl, hI', hc⟩ := h2 v2 η2 hv2
  obtain ⟨α', τ', hx', hm', ht', hq', hf'⟩ := id hI'
  refine ⟨_, hm'.o, 0, 0, _, c_thrown hm', by omega, by omega, fun v3 η3 hv3 => ?_⟩
  obtain ⟨rfl, rfl⟩ := hv3
  refine ⟨fun c1 => ?_, fun c1 => absurd (cb_eq.mpr rfl) c1⟩
  refine ⟨fun c2 => hN _ _ _ _ _ _ hI' (by omega) (by omega), fun c2 => ?_⟩
  obtain ⟨e1, e2⟩ := hc (Classical.not_not.mp c2)
  refine ⟨1, f', 0, hf', nI_0.symm, by decide, ?_⟩
  have e3 : lg_cmp (f' 0) y.toInt64 = 0 := by rw [e1]; exact lg_same _
  exact ⟨fun c3 => hN _ _ _ _ _ _ hI' (by omega) (by omega), fun c3 => absurd e3 c3⟩
theorem dL_388 : decode (jj_code mL_law) 388 = .ok (.iaload, 1) := by decide +kernel
theorem dL_394 : decode (jj_code mL_law) 394 = .ok (.iaload, 1) := by decide +kernel
theorem dL_400 : decode (jj_code mL_law) 400 = .ok (.iaload, 1) := by decide +kernel
theorem dL_406 : decode (jj_code mL_law) 406 = .ok (.iaload, 1) := by decide +kernel
theorem dL_419 : decode (jj_code mL_law) 419 = .ok (.iaload, 1) := by decide +kernel
theorem dL_425 : decode (jj_code mL_law) 425 = .ok (.iaload, 1) := by decide +kernel
theorem dL_431 : decode (jj_code mL_law) 431 = .ok (.iaload, 1) := by decide +kernel
theorem dL_437 : decode (jj_code mL_law) 437 = .ok (.iaload, 1) := by decide +kernel
theorem dL_408 : decode (jj_code mL_law) 408 = .ok (.invokestatic 91, 3) := by decide +kernel
theorem lnk_print : Cond.methodLink (jj_nm mL_law).cls 91 (jj_nm mL_print) ∈ jj_G := by decide +kernel
theorem L_print {RC RS b L : Nat} {xs : Nat → Int32} {J : jj_K} {X Y : Nat → Nat} {q C S j k n : Nat} {σ : jj_S} {th : Int32} {f : Nat → Int64} {η : jj_H} (hJ : lw_J RC RS b L xs J) (hL : L ≤ 3584) (hj : 7 * j + 7 ≤ L) (hN : lw_H b L X Y q C S J 1412 j) (hI : w_I X Y q σ th f η) (hk : k + 8 ≤ C) (hn : n + 160 ≤ S) (hC : C ≤ RC) (hS : S ≤ RS) : J η k n 382 [(0, .ref b), (1, .ref (X 0)), (2, .ref (Y 0)), (3, .ref q), (4, .int (nI (7 * j)))] [] := by
  obtain ⟨run, sd, -, sc, -, -⟩ := hJ
  obtain ⟨c, mc, ms, P, hP, b1, b2, hp⟩ := o_print hI (xs (nI (7 * j) + nI 1).toNatClampNeg) (xs (nI (7 * j) + nI 2).toNatClampNeg) (xs (nI (7 * j) + nI 3).toNatClampNeg) (xs (nI (7 * j) + nI 4).toNatClampNeg)
  refine run [] 12 ?_
  refine sd dL_388 (w_in hL (by omega)) ?_
  refine run [] 12 ?_
  refine sd dL_394 (w_in hL (by omega)) ?_
  refine run [] 12 ?_
  refine sd dL_400 (w_in hL (by omega)) ?_
  refine run [] 12 ?_
  refine sd dL_406 (w_in hL (by omega)) ?_
  refine run [] 12 ?_
  refine sc (as := [.ref (X 0), .int (xs (nI (7 * j) + nI 1).toNatClampNeg), .int (xs (nI (7 * j) + nI 2).toNatClampNeg), .int (xs (nI (7 * j) + nI 3).toNatClampNeg), .int (xs (nI (7 * j) + nI 4).toNatClampNeg), .ref q]) (rest := []) dL_408 lnk_print okH_print (by decide) rfl rfl rfl hP (by omega) (by omega) fun v η1 hv => ?_
  obtain ⟨rfl, ⟨vs, hy⟩, mc2, ms2, P2, hM, b3, b4, h2⟩ := hp v η1 hv
  refine run [] 12 ?_
  refine sd dL_419 (w_in hL (by omega)) ?_
  refine run [] 12 ?_
  refine sd dL_425 (w_in hL (by omega)) ?_
  refine run [] 12 ?_
  refine sd dL_431 (w_in hL (by omega)) ?_
  refine run [] 12 ?_
  refine sd dL_437 (w_in hL (by omega)) ?_
  refine run [(1412, 5)] 40 ?_
  refine ⟨vs, hy, mc2, ms2, P2, hM, by omega, by omega, fun v2 η2 hv2 => ?_⟩
  obtain ⟨y, σ', f', rfl, hI', hc⟩ := h2 v2 η2 hv2
  obtain ⟨α', τ', hx', hm', ht', hq', hf'⟩ := id hI'
  refine ⟨_, hm'.o, 0, 0, _, c_thrown hm', by omega, by omega, fun v3 η3 hv3 => ?_⟩
  obtain ⟨rfl, rfl⟩ := hv3
  refine ⟨fun c1 => ?_, fun c1 => absurd (cb_eq.mpr rfl) c1⟩
  refine ⟨fun c2 => hN _ _ _ _ _ _ hI' (by omega) (by omega), fun c2 => ?_⟩
  obtain ⟨e1, e2⟩ := hc (Classical.not_not.mp c2)
  refine ⟨1, f', 0, hf', nI_0.symm, by decide, ?_⟩
  have e3 : lg_cmp (f' 0) y.toInt64 = 0 := by rw [e1]; exact lg_same _
  exact ⟨fun c3 => hN _ _ _ _ _ _ hI' (by omega) (by omega), fun c3 => absurd e3 c3⟩
theorem dL_480 : decode (jj_code mL_law) 480 = .ok (.iaload, 1) := by decide +kernel
theorem dL_486 : decode (jj_code mL_law) 486 = .ok (.iaload, 1) := by decide +kernel
theorem dL_492 : decode (jj_code mL_law) 492 = .ok (.iaload, 1) := by decide +kernel
theorem dL_498 : decode (jj_code mL_law) 498 = .ok (.iaload, 1) := by decide +kernel
theorem dL_504 : decode (jj_code mL_law) 504 = .ok (.iaload, 1) := by decide +kernel
theorem dL_517 : decode (jj_code mL_law) 517 = .ok (.iaload, 1) := by decide +kernel
theorem dL_523 : decode (jj_code mL_law) 523 = .ok (.iaload, 1) := by decide +kernel
theorem dL_529 : decode (jj_code mL_law) 529 = .ok (.iaload, 1) := by decide +kernel
theorem dL_535 : decode (jj_code mL_law) 535 = .ok (.iaload, 1) := by decide +kernel
theorem dL_541 : decode (jj_code mL_law) 541 = .ok (.iaload, 1) := by decide +kernel
theorem dL_506 : decode (jj_code mL_law) 506 = .ok (.invokestatic 95, 3) := by decide +kernel
theorem lnk_setSheet : Cond.methodLink (jj_nm mL_law).cls 95 (jj_nm mL_setSheet) ∈ jj_G := by decide +kernel
theorem L_setSheet {RC RS b L : Nat} {xs : Nat → Int32} {J : jj_K} {X Y : Nat → Nat} {q C S j k n : Nat} {σ : jj_S} {th : Int32} {f : Nat → Int64} {η : jj_H} (hJ : lw_J RC RS b L xs J) (hL : L ≤ 3584) (hj : 7 * j + 7 ≤ L) (hN : lw_H b L X Y q C S J 1412 j) (hI : w_I X Y q σ th f η) (hk : k + 8 ≤ C) (hn : n + 160 ≤ S) (hC : C ≤ RC) (hS : S ≤ RS) : J η k n 474 [(0, .ref b), (1, .ref (X 0)), (2, .ref (Y 0)), (3, .ref q), (4, .int (nI (7 * j)))] [] := by
  obtain ⟨run, sd, -, sc, -, -⟩ := hJ
  obtain ⟨c, mc, ms, P, hP, b1, b2, hp⟩ := o_setSheet hI (xs (nI (7 * j) + nI 1).toNatClampNeg) (xs (nI (7 * j) + nI 2).toNatClampNeg) (xs (nI (7 * j) + nI 3).toNatClampNeg) (xs (nI (7 * j) + nI 4).toNatClampNeg) (xs (nI (7 * j) + nI 5).toNatClampNeg)
  refine run [] 12 ?_
  refine sd dL_480 (w_in hL (by omega)) ?_
  refine run [] 12 ?_
  refine sd dL_486 (w_in hL (by omega)) ?_
  refine run [] 12 ?_
  refine sd dL_492 (w_in hL (by omega)) ?_
  refine run [] 12 ?_
  refine sd dL_498 (w_in hL (by omega)) ?_
  refine run [] 12 ?_
  refine sd dL_504 (w_in hL (by omega)) ?_
  refine run [] 12 ?_
  refine sc (as := [.ref (X 0), .int (xs (nI (7 * j) + nI 1).toNatClampNeg), .int (xs (nI (7 * j) + nI 2).toNatClampNeg), .int (xs (nI (7 * j) + nI 3).toNatClampNeg), .int (xs (nI (7 * j) + nI 4).toNatClampNeg), .int (xs (nI (7 * j) + nI 5).toNatClampNeg), .ref q]) (rest := []) dL_506 lnk_setSheet okH_setSheet (by decide) rfl rfl rfl hP (by omega) (by omega) fun v η1 hv => ?_
  obtain ⟨rfl, ⟨vs, hy⟩, mc2, ms2, P2, hM, b3, b4, h2⟩ := hp v η1 hv
  refine run [] 12 ?_
  refine sd dL_517 (w_in hL (by omega)) ?_
  refine run [] 12 ?_
  refine sd dL_523 (w_in hL (by omega)) ?_
  refine run [] 12 ?_
  refine sd dL_529 (w_in hL (by omega)) ?_
  refine run [] 12 ?_
  refine sd dL_535 (w_in hL (by omega)) ?_
  refine run [] 12 ?_
  refine sd dL_541 (w_in hL (by omega)) ?_
  refine run [(1412, 5)] 40 ?_
  refine ⟨vs, hy, mc2, ms2, P2, hM, by omega, by omega, fun v2 η2 hv2 => ?_⟩
  obtain ⟨y, σ', f', rfl, hI', hc⟩ := h2 v2 η2 hv2
  obtain ⟨α', τ', hx', hm', ht', hq', hf'⟩ := id hI'
  refine ⟨_, hm'.o, 0, 0, _, c_thrown hm', by omega, by omega, fun v3 η3 hv3 => ?_⟩
  obtain ⟨rfl, rfl⟩ := hv3
  refine ⟨fun c1 => ?_, fun c1 => absurd (cb_eq.mpr rfl) c1⟩
  refine ⟨fun c2 => hN _ _ _ _ _ _ hI' (by omega) (by omega), fun c2 => ?_⟩
  obtain ⟨e1, e2⟩ := hc (Classical.not_not.mp c2)
  refine ⟨1, f', 0, hf', nI_0.symm, by decide, ?_⟩
  have e3 : lg_cmp (f' 0) y.toInt64 = 0 := by rw [e1]; exact lg_same _
  exact ⟨fun c3 => hN _ _ _ _ _ _ hI' (by omega) (by omega), fun c3 => absurd e3 c3⟩
theorem dL_584 : decode (jj_code mL_law) 584 = .ok (.iaload, 1) := by decide +kernel
theorem dL_590 : decode (jj_code mL_law) 590 = .ok (.iaload, 1) := by decide +kernel
theorem dL_596 : decode (jj_code mL_law) 596 = .ok (.iaload, 1) := by decide +kernel
theorem dL_609 : decode (jj_code mL_law) 609 = .ok (.iaload, 1) := by decide +kernel
theorem dL_615 : decode (jj_code mL_law) 615 = .ok (.iaload, 1) := by decide +kernel
theorem dL_621 : decode (jj_code mL_law) 621 = .ok (.iaload, 1) := by decide +kernel
theorem dL_598 : decode (jj_code mL_law) 598 = .ok (.invokestatic 99, 3) := by decide +kernel
theorem lnk_tear : Cond.methodLink (jj_nm mL_law).cls 99 (jj_nm mL_tear) ∈ jj_G := by decide +kernel
theorem L_tear {RC RS b L : Nat} {xs : Nat → Int32} {J : jj_K} {X Y : Nat → Nat} {q C S j k n : Nat} {σ : jj_S} {th : Int32} {f : Nat → Int64} {η : jj_H} (hJ : lw_J RC RS b L xs J) (hL : L ≤ 3584) (hj : 7 * j + 7 ≤ L) (hN : lw_H b L X Y q C S J 1412 j) (hI : w_I X Y q σ th f η) (hk : k + 8 ≤ C) (hn : n + 160 ≤ S) (hC : C ≤ RC) (hS : S ≤ RS) : J η k n 578 [(0, .ref b), (1, .ref (X 0)), (2, .ref (Y 0)), (3, .ref q), (4, .int (nI (7 * j)))] [] := by
  obtain ⟨run, sd, -, sc, -, -⟩ := hJ
  obtain ⟨c, mc, ms, P, hP, b1, b2, hp⟩ := o_tear hI (xs (nI (7 * j) + nI 1).toNatClampNeg) (xs (nI (7 * j) + nI 2).toNatClampNeg) (xs (nI (7 * j) + nI 3).toNatClampNeg)
  refine run [] 12 ?_
  refine sd dL_584 (w_in hL (by omega)) ?_
  refine run [] 12 ?_
  refine sd dL_590 (w_in hL (by omega)) ?_
  refine run [] 12 ?_
  refine sd dL_596 (w_in hL (by omega)) ?_
  refine run [] 12 ?_
  refine sc (as := [.ref (X 0), .int (xs (nI (7 * j) + nI 1).toNatClampNeg), .int (xs (nI (7 * j) + nI 2).toNatClampNeg), .int (xs (nI (7 * j) + nI 3).toNatClampNeg), .ref q]) (rest := []) dL_598 lnk_tear okH_tear (by decide) rfl rfl rfl hP (by omega) (by omega) fun v η1 hv => ?_
  obtain ⟨rfl, ⟨vs, hy⟩, mc2, ms2, P2, hM, b3, b4, h2⟩ := hp v η1 hv
  refine run [] 12 ?_
  refine sd dL_609 (w_in hL (by omega)) ?_
  refine run [] 12 ?_
  refine sd dL_615 (w_in hL (by omega)) ?_
  refine run [] 12 ?_
  refine sd dL_621 (w_in hL (by omega)) ?_
  refine run [(1412, 5)] 40 ?_
  refine ⟨vs, hy, mc2, ms2, P2, hM, by omega, by omega, fun v2 η2 hv2 => ?_⟩
  obtain ⟨y, σ', f', rfl, hI', hc⟩ := h2 v2 η2 hv2
  obtain ⟨α', τ', hx', hm', ht', hq', hf'⟩ := id hI'
  refine ⟨_, hm'.o, 0, 0, _, c_thrown hm', by omega, by omega, fun v3 η3 hv3 => ?_⟩
  obtain ⟨rfl, rfl⟩ := hv3
  refine ⟨fun c1 => ?_, fun c1 => absurd (cb_eq.mpr rfl) c1⟩
  refine ⟨fun c2 => hN _ _ _ _ _ _ hI' (by omega) (by omega), fun c2 => ?_⟩
  obtain ⟨e1, e2⟩ := hc (Classical.not_not.mp c2)
  refine ⟨1, f', 0, hf', nI_0.symm, by decide, ?_⟩
  have e3 : lg_cmp (f' 0) y.toInt64 = 0 := by rw [e1]; exact lg_same _
  exact ⟨fun c3 => hN _ _ _ _ _ _ hI' (by omega) (by omega), fun c3 => absurd e3 c3⟩
theorem dL_664 : decode (jj_code mL_law) 664 = .ok (.iaload, 1) := by decide +kernel
theorem dL_670 : decode (jj_code mL_law) 670 = .ok (.iaload, 1) := by decide +kernel
theorem dL_676 : decode (jj_code mL_law) 676 = .ok (.iaload, 1) := by decide +kernel
theorem dL_689 : decode (jj_code mL_law) 689 = .ok (.iaload, 1) := by decide +kernel
theorem dL_695 : decode (jj_code mL_law) 695 = .ok (.iaload, 1) := by decide +kernel
theorem dL_701 : decode (jj_code mL_law) 701 = .ok (.iaload, 1) := by decide +kernel
theorem dL_678 : decode (jj_code mL_law) 678 = .ok (.invokestatic 103, 3) := by decide +kernel
theorem lnk_forge : Cond.methodLink (jj_nm mL_law).cls 103 (jj_nm mL_forge) ∈ jj_G := by decide +kernel
theorem L_forge {RC RS b L : Nat} {xs : Nat → Int32} {J : jj_K} {X Y : Nat → Nat} {q C S j k n : Nat} {σ : jj_S} {th : Int32} {f : Nat → Int64} {η : jj_H} (hJ : lw_J RC RS b L xs J) (hL : L ≤ 3584) (hj : 7 * j + 7 ≤ L) (hN : lw_H b L X Y q C S J 1412 j) (hI : w_I X Y q σ th f η) (hk : k + 8 ≤ C) (hn : n + 160 ≤ S) (hC : C ≤ RC) (hS : S ≤ RS) : J η k n 658 [(0, .ref b), (1, .ref (X 0)), (2, .ref (Y 0)), (3, .ref q), (4, .int (nI (7 * j)))] [] := by
  obtain ⟨run, sd, -, sc, -, -⟩ := hJ
  obtain ⟨c, mc, ms, P, hP, b1, b2, hp⟩ := o_forge hI (xs (nI (7 * j) + nI 1).toNatClampNeg) (xs (nI (7 * j) + nI 2).toNatClampNeg) (xs (nI (7 * j) + nI 3).toNatClampNeg)
  refine run [] 12 ?_
  refine sd dL_664 (w_in hL (by omega)) ?_
  refine run [] 12 ?_
  refine sd dL_670 (w_in hL (by omega)) ?_
  refine run [] 12 ?_
  refine sd dL_676 (w_in hL (by omega)) ?_
  refine run [] 12 ?_
  refine sc (as := [.ref (X 0), .int (xs (nI (7 * j) + nI 1).toNatClampNeg), .int (xs (nI (7 * j) + nI 2).toNatClampNeg), .int (xs (nI (7 * j) + nI 3).toNatClampNeg), .ref q]) (rest := []) dL_678 lnk_forge okH_forge (by decide) rfl rfl rfl hP (by omega) (by omega) fun v η1 hv => ?_
  obtain ⟨rfl, ⟨vs, hy⟩, mc2, ms2, P2, hM, b3, b4, h2⟩ := hp v η1 hv
  refine run [] 12 ?_
  refine sd dL_689 (w_in hL (by omega)) ?_
  refine run [] 12 ?_
  refine sd dL_695 (w_in hL (by omega)) ?_
  refine run [] 12 ?_
  refine sd dL_701 (w_in hL (by omega)) ?_
  refine run [(1412, 5)] 40 ?_
  refine ⟨vs, hy, mc2, ms2, P2, hM, by omega, by omega, fun v2 η2 hv2 => ?_⟩
  obtain ⟨y, σ', f', rfl, hI', hc⟩ := h2 v2 η2 hv2
  obtain ⟨α', τ', hx', hm', ht', hq', hf'⟩ := id hI'
  refine ⟨_, hm'.o, 0, 0, _, c_thrown hm', by omega, by omega, fun v3 η3 hv3 => ?_⟩
  obtain ⟨rfl, rfl⟩ := hv3
  refine ⟨fun c1 => ?_, fun c1 => absurd (cb_eq.mpr rfl) c1⟩
  refine ⟨fun c2 => hN _ _ _ _ _ _ hI' (by omega) (by omega), fun c2 => ?_⟩
  obtain ⟨e1, e2⟩ := hc (Classical.not_not.mp c2)
  refine ⟨1, f', 0, hf', nI_0.symm, by decide, ?_⟩
  have e3 : lg_cmp (f' 0) y.toInt64 = 0 := by rw [e1]; exact lg_same _
  exact ⟨fun c3 => hN _ _ _ _ _ _ hI' (by omega) (by omega), fun c3 => absurd e3 c3⟩
theorem dL_744 : decode (jj_code mL_law) 744 = .ok (.iaload, 1) := by decide +kernel
theorem dL_750 : decode (jj_code mL_law) 750 = .ok (.iaload, 1) := by decide +kernel
theorem dL_763 : decode (jj_code mL_law) 763 = .ok (.iaload, 1) := by decide +kernel
theorem dL_769 : decode (jj_code mL_law) 769 = .ok (.iaload, 1) := by decide +kernel
theorem dL_752 : decode (jj_code mL_law) 752 = .ok (.invokestatic 106, 3) := by decide +kernel
theorem lnk_stamp : Cond.methodLink (jj_nm mL_law).cls 106 (jj_nm mL_stamp) ∈ jj_G := by decide +kernel
theorem L_stamp {RC RS b L : Nat} {xs : Nat → Int32} {J : jj_K} {X Y : Nat → Nat} {q C S j k n : Nat} {σ : jj_S} {th : Int32} {f : Nat → Int64} {η : jj_H} (hJ : lw_J RC RS b L xs J) (hL : L ≤ 3584) (hj : 7 * j + 7 ≤ L) (hN : lw_H b L X Y q C S J 1412 j) (hI : w_I X Y q σ th f η) (hk : k + 8 ≤ C) (hn : n + 160 ≤ S) (hC : C ≤ RC) (hS : S ≤ RS) : J η k n 738 [(0, .ref b), (1, .ref (X 0)), (2, .ref (Y 0)), (3, .ref q), (4, .int (nI (7 * j)))] [] := by
  obtain ⟨run, sd, -, sc, -, -⟩ := hJ
  obtain ⟨c, mc, ms, P, hP, b1, b2, hp⟩ := o_stamp hI (xs (nI (7 * j) + nI 1).toNatClampNeg) (xs (nI (7 * j) + nI 2).toNatClampNeg)
  refine run [] 12 ?_
  refine sd dL_744 (w_in hL (by omega)) ?_
  refine run [] 12 ?_
  refine sd dL_750 (w_in hL (by omega)) ?_
  refine run [] 12 ?_
  refine sc (as := [.ref (X 0), .int (xs (nI (7 * j) + nI 1).toNatClampNeg), .int (xs (nI (7 * j) + nI 2).toNatClampNeg), .ref q]) (rest := []) dL_752 lnk_stamp okH_stamp (by decide) rfl rfl rfl hP (by omega) (by omega) fun v η1 hv => ?_
  obtain ⟨rfl, ⟨vs, hy⟩, mc2, ms2, P2, hM, b3, b4, h2⟩ := hp v η1 hv
  refine run [] 12 ?_
  refine sd dL_763 (w_in hL (by omega)) ?_
  refine run [] 12 ?_
  refine sd dL_769 (w_in hL (by omega)) ?_
  refine run [(1412, 5)] 40 ?_
  refine ⟨vs, hy, mc2, ms2, P2, hM, by omega, by omega, fun v2 η2 hv2 => ?_⟩
  obtain ⟨y, σ', f', rfl, hI', hc⟩ := h2 v2 η2 hv2
  obtain ⟨α', τ', hx', hm', ht', hq', hf'⟩ := id hI'
  refine ⟨_, hm'.o, 0, 0, _, c_thrown hm', by omega, by omega, fun v3 η3 hv3 => ?_⟩
  obtain ⟨rfl, rfl⟩ := hv3
  refine ⟨fun c1 => ?_, fun c1 => absurd (cb_eq.mpr rfl) c1⟩
  refine ⟨fun c2 => hN _ _ _ _ _ _ hI' (by omega) (by omega), fun c2 => ?_⟩
  obtain ⟨e1, e2⟩ := hc (Classical.not_not.mp c2)
  refine ⟨1, f', 0, hf', nI_0.symm, by decide, ?_⟩
  have e3 : lg_cmp (f' 0) y.toInt64 = 0 := by rw [e1]; exact lg_same _
  exact ⟨fun c3 => hN _ _ _ _ _ _ hI' (by omega) (by omega), fun c3 => absurd e3 c3⟩
theorem dL_812 : decode (jj_code mL_law) 812 = .ok (.iaload, 1) := by decide +kernel
theorem dL_818 : decode (jj_code mL_law) 818 = .ok (.iaload, 1) := by decide +kernel
theorem dL_824 : decode (jj_code mL_law) 824 = .ok (.iaload, 1) := by decide +kernel
theorem dL_837 : decode (jj_code mL_law) 837 = .ok (.iaload, 1) := by decide +kernel
theorem dL_843 : decode (jj_code mL_law) 843 = .ok (.iaload, 1) := by decide +kernel
theorem dL_849 : decode (jj_code mL_law) 849 = .ok (.iaload, 1) := by decide +kernel
theorem dL_826 : decode (jj_code mL_law) 826 = .ok (.invokestatic 109, 3) := by decide +kernel
theorem lnk_fits : Cond.methodLink (jj_nm mL_law).cls 109 (jj_nm mL_fits) ∈ jj_G := by decide +kernel
theorem L_fits {RC RS b L : Nat} {xs : Nat → Int32} {J : jj_K} {X Y : Nat → Nat} {q C S j k n : Nat} {σ : jj_S} {th : Int32} {f : Nat → Int64} {η : jj_H} (hJ : lw_J RC RS b L xs J) (hL : L ≤ 3584) (hj : 7 * j + 7 ≤ L) (hN : lw_H b L X Y q C S J 1412 j) (hI : w_I X Y q σ th f η) (hk : k + 8 ≤ C) (hn : n + 160 ≤ S) (hC : C ≤ RC) (hS : S ≤ RS) : J η k n 806 [(0, .ref b), (1, .ref (X 0)), (2, .ref (Y 0)), (3, .ref q), (4, .int (nI (7 * j)))] [] := by
  obtain ⟨run, sd, -, sc, -, -⟩ := hJ
  obtain ⟨c, mc, ms, P, hP, b1, b2, hp⟩ := o_fits hI (xs (nI (7 * j) + nI 1).toNatClampNeg) (xs (nI (7 * j) + nI 2).toNatClampNeg) (xs (nI (7 * j) + nI 3).toNatClampNeg)
  refine run [] 12 ?_
  refine sd dL_812 (w_in hL (by omega)) ?_
  refine run [] 12 ?_
  refine sd dL_818 (w_in hL (by omega)) ?_
  refine run [] 12 ?_
  refine sd dL_824 (w_in hL (by omega)) ?_
  refine run [] 12 ?_
  refine sc (as := [.ref (X 0), .int (xs (nI (7 * j) + nI 1).toNatClampNeg), .int (xs (nI (7 * j) + nI 2).toNatClampNeg), .int (xs (nI (7 * j) + nI 3).toNatClampNeg), .ref q]) (rest := []) dL_826 lnk_fits okH_fits (by decide) rfl rfl rfl hP (by omega) (by omega) fun v η1 hv => ?_
  obtain ⟨rfl, ⟨vs, hy⟩, mc2, ms2, P2, hM, b3, b4, h2⟩ := hp v η1 hv
  refine run [] 12 ?_
  refine sd dL_837 (w_in hL (by omega)) ?_
  refine run [] 12 ?_
  refine sd dL_843 (w_in hL (by omega)) ?_
  refine run [] 12 ?_
  refine sd dL_849 (w_in hL (by omega)) ?_
  refine run [(1412, 5)] 40 ?_
  refine ⟨vs, hy, mc2, ms2, P2, hM, by omega, by omega, fun v2 η2 hv2 => ?_⟩
  obtain ⟨y, σ', f', rfl, hI', hc⟩ := h2 v2 η2 hv2
  obtain ⟨α', τ', hx', hm', ht', hq', hf'⟩ := id hI'
  refine ⟨_, hm'.o, 0, 0, _, c_thrown hm', by omega, by omega, fun v3 η3 hv3 => ?_⟩
  obtain ⟨rfl, rfl⟩ := hv3
  refine ⟨fun c1 => ?_, fun c1 => absurd (cb_eq.mpr rfl) c1⟩
  refine ⟨fun c2 => hN _ _ _ _ _ _ hI' (by omega) (by omega), fun c2 => ?_⟩
  obtain ⟨e1, e2⟩ := hc (Classical.not_not.mp c2)
  refine ⟨1, f', 0, hf', nI_0.symm, by decide, ?_⟩
  obtain ⟨t, rfl⟩ := e2
  refine ⟨fun c3 => ?_, fun c3 => ?_⟩
  · have e3 : lg_cmp (f' 0) 0 = 0 := by rw [e1, b01_eq0 c3]; exact lg_same _
    exact ⟨fun c3 => hN _ _ _ _ _ _ hI' (by omega) (by omega), fun c3 => absurd e3 c3⟩
  · have e3 : lg_cmp (f' 0) 1 = 0 := by rw [e1, b01_ne0 c3]; exact lg_same _
    exact ⟨fun c3 => hN _ _ _ _ _ _ hI' (by omega) (by omega), fun c3 => absurd e3 c3⟩
theorem dL_899 : decode (jj_code mL_law) 899 = .ok (.iaload, 1) := by decide +kernel
theorem dL_905 : decode (jj_code mL_law) 905 = .ok (.iaload, 1) := by decide +kernel
theorem dL_911 : decode (jj_code mL_law) 911 = .ok (.iaload, 1) := by decide +kernel
theorem dL_924 : decode (jj_code mL_law) 924 = .ok (.iaload, 1) := by decide +kernel
theorem dL_930 : decode (jj_code mL_law) 930 = .ok (.iaload, 1) := by decide +kernel
theorem dL_936 : decode (jj_code mL_law) 936 = .ok (.iaload, 1) := by decide +kernel
theorem dL_913 : decode (jj_code mL_law) 913 = .ok (.invokestatic 112, 3) := by decide +kernel
theorem lnk_fitting : Cond.methodLink (jj_nm mL_law).cls 112 (jj_nm mL_fitting) ∈ jj_G := by decide +kernel
theorem L_fitting {RC RS b L : Nat} {xs : Nat → Int32} {J : jj_K} {X Y : Nat → Nat} {q C S j k n : Nat} {σ : jj_S} {th : Int32} {f : Nat → Int64} {η : jj_H} (hJ : lw_J RC RS b L xs J) (hL : L ≤ 3584) (hj : 7 * j + 7 ≤ L) (hN : lw_H b L X Y q C S J 1412 j) (hI : w_I X Y q σ th f η) (hk : k + 8 ≤ C) (hn : n + 160 ≤ S) (hC : C ≤ RC) (hS : S ≤ RS) : J η k n 893 [(0, .ref b), (1, .ref (X 0)), (2, .ref (Y 0)), (3, .ref q), (4, .int (nI (7 * j)))] [] := by
  obtain ⟨run, sd, -, sc, -, -⟩ := hJ
  obtain ⟨c, mc, ms, P, hP, b1, b2, hp⟩ := o_fitting hI (xs (nI (7 * j) + nI 1).toNatClampNeg) (xs (nI (7 * j) + nI 2).toNatClampNeg) (xs (nI (7 * j) + nI 3).toNatClampNeg)
  refine run [] 12 ?_
  refine sd dL_899 (w_in hL (by omega)) ?_
  refine run [] 12 ?_
  refine sd dL_905 (w_in hL (by omega)) ?_
  refine run [] 12 ?_
  refine sd dL_911 (w_in hL (by omega)) ?_
  refine run [] 12 ?_
  refine sc (as := [.ref (X 0), .int (xs (nI (7 * j) + nI 1).toNatClampNeg), .int (xs (nI (7 * j) + nI 2).toNatClampNeg), .int (xs (nI (7 * j) + nI 3).toNatClampNeg), .ref q]) (rest := []) dL_913 lnk_fitting okH_fitting (by decide) rfl rfl rfl hP (by omega) (by omega) fun v η1 hv => ?_
  obtain ⟨rfl, ⟨vs, hy⟩, mc2, ms2, P2, hM, b3, b4, h2⟩ := hp v η1 hv
  refine run [] 12 ?_
  refine sd dL_924 (w_in hL (by omega)) ?_
  refine run [] 12 ?_
  refine sd dL_930 (w_in hL (by omega)) ?_
  refine run [] 12 ?_
  refine sd dL_936 (w_in hL (by omega)) ?_
  refine run [(1412, 5)] 40 ?_
  refine ⟨vs, hy, mc2, ms2, P2, hM, by omega, by omega, fun v2 η2 hv2 => ?_⟩
  obtain ⟨y, σ', f', rfl, hI', hc⟩ := h2 v2 η2 hv2
  obtain ⟨α', τ', hx', hm', ht', hq', hf'⟩ := id hI'
  refine ⟨_, hm'.o, 0, 0, _, c_thrown hm', by omega, by omega, fun v3 η3 hv3 => ?_⟩
  obtain ⟨rfl, rfl⟩ := hv3
  refine ⟨fun c1 => ?_, fun c1 => absurd (cb_eq.mpr rfl) c1⟩
  refine ⟨fun c2 => hN _ _ _ _ _ _ hI' (by omega) (by omega), fun c2 => ?_⟩
  obtain ⟨e1, e2⟩ := hc (Classical.not_not.mp c2)
  refine ⟨1, f', 0, hf', nI_0.symm, by decide, ?_⟩
  have e3 : lg_cmp (f' 0) y.toInt64 = 0 := by rw [e1]; exact lg_same _
  exact ⟨fun c3 => hN _ _ _ _ _ _ hI' (by omega) (by omega), fun c3 => absurd e3 c3⟩
theorem dL_979 : decode (jj_code mL_law) 979 = .ok (.iaload, 1) := by decide +kernel
theorem dL_985 : decode (jj_code mL_law) 985 = .ok (.iaload, 1) := by decide +kernel
theorem dL_998 : decode (jj_code mL_law) 998 = .ok (.iaload, 1) := by decide +kernel
theorem dL_1004 : decode (jj_code mL_law) 1004 = .ok (.iaload, 1) := by decide +kernel
theorem dL_987 : decode (jj_code mL_law) 987 = .ok (.invokestatic 115, 3) := by decide +kernel
theorem lnk_origin : Cond.methodLink (jj_nm mL_law).cls 115 (jj_nm mL_origin) ∈ jj_G := by decide +kernel
theorem L_origin {RC RS b L : Nat} {xs : Nat → Int32} {J : jj_K} {X Y : Nat → Nat} {q C S j k n : Nat} {σ : jj_S} {th : Int32} {f : Nat → Int64} {η : jj_H} (hJ : lw_J RC RS b L xs J) (hL : L ≤ 3584) (hj : 7 * j + 7 ≤ L) (hN : lw_H b L X Y q C S J 1412 j) (hI : w_I X Y q σ th f η) (hk : k + 8 ≤ C) (hn : n + 160 ≤ S) (hC : C ≤ RC) (hS : S ≤ RS) : J η k n 973 [(0, .ref b), (1, .ref (X 0)), (2, .ref (Y 0)), (3, .ref q), (4, .int (nI (7 * j)))] [] := by
  obtain ⟨run, sd, -, sc, -, -⟩ := hJ
  obtain ⟨c, mc, ms, P, hP, b1, b2, hp⟩ := o_origin hI (xs (nI (7 * j) + nI 1).toNatClampNeg) (xs (nI (7 * j) + nI 2).toNatClampNeg)
  refine run [] 12 ?_
  refine sd dL_979 (w_in hL (by omega)) ?_
  refine run [] 12 ?_
  refine sd dL_985 (w_in hL (by omega)) ?_
  refine run [] 12 ?_
  refine sc (as := [.ref (X 0), .int (xs (nI (7 * j) + nI 1).toNatClampNeg), .int (xs (nI (7 * j) + nI 2).toNatClampNeg), .ref q]) (rest := []) dL_987 lnk_origin okH_origin (by decide) rfl rfl rfl hP (by omega) (by omega) fun v η1 hv => ?_
  obtain ⟨rfl, ⟨vs, hy⟩, mc2, ms2, P2, hM, b3, b4, h2⟩ := hp v η1 hv
  refine run [] 12 ?_
  refine sd dL_998 (w_in hL (by omega)) ?_
  refine run [] 12 ?_
  refine sd dL_1004 (w_in hL (by omega)) ?_
  refine run [(1412, 5)] 40 ?_
  refine ⟨vs, hy, mc2, ms2, P2, hM, by omega, by omega, fun v2 η2 hv2 => ?_⟩
  obtain ⟨y, σ', f', rfl, hI', hc⟩ := h2 v2 η2 hv2
  obtain ⟨α', τ', hx', hm', ht', hq', hf'⟩ := id hI'
  refine ⟨_, hm'.o, 0, 0, _, c_thrown hm', by omega, by omega, fun v3 η3 hv3 => ?_⟩
  obtain ⟨rfl, rfl⟩ := hv3
  refine ⟨fun c1 => ?_, fun c1 => absurd (cb_eq.mpr rfl) c1⟩
  refine ⟨fun c2 => hN _ _ _ _ _ _ hI' (by omega) (by omega), fun c2 => ?_⟩
  obtain ⟨e1, e2⟩ := hc (Classical.not_not.mp c2)
  refine ⟨1, f', 0, hf', nI_0.symm, by decide, ?_⟩
  have e3 : lg_cmp (f' 0) y.toInt64 = 0 := by rw [e1]; exact lg_same _
  exact ⟨fun c3 => hN _ _ _ _ _ _ hI' (by omega) (by omega), fun c3 => absurd e3 c3⟩
theorem dL_1047 : decode (jj_code mL_law) 1047 = .ok (.iaload, 1) := by decide +kernel
theorem dL_1053 : decode (jj_code mL_law) 1053 = .ok (.iaload, 1) := by decide +kernel
theorem dL_1059 : decode (jj_code mL_law) 1059 = .ok (.iaload, 1) := by decide +kernel
theorem dL_1072 : decode (jj_code mL_law) 1072 = .ok (.iaload, 1) := by decide +kernel
theorem dL_1078 : decode (jj_code mL_law) 1078 = .ok (.iaload, 1) := by decide +kernel
theorem dL_1084 : decode (jj_code mL_law) 1084 = .ok (.iaload, 1) := by decide +kernel
theorem dL_1061 : decode (jj_code mL_law) 1061 = .ok (.invokestatic 118, 3) := by decide +kernel
theorem lnk_mount : Cond.methodLink (jj_nm mL_law).cls 118 (jj_nm mL_mount) ∈ jj_G := by decide +kernel
theorem L_mount {RC RS b L : Nat} {xs : Nat → Int32} {J : jj_K} {X Y : Nat → Nat} {q C S j k n : Nat} {σ : jj_S} {th : Int32} {f : Nat → Int64} {η : jj_H} (hJ : lw_J RC RS b L xs J) (hL : L ≤ 3584) (hj : 7 * j + 7 ≤ L) (hN : lw_H b L X Y q C S J 1412 j) (hI : w_I X Y q σ th f η) (hk : k + 8 ≤ C) (hn : n + 160 ≤ S) (hC : C ≤ RC) (hS : S ≤ RS) : J η k n 1041 [(0, .ref b), (1, .ref (X 0)), (2, .ref (Y 0)), (3, .ref q), (4, .int (nI (7 * j)))] [] := by
  obtain ⟨run, sd, -, sc, -, -⟩ := hJ
  obtain ⟨c, mc, ms, P, hP, b1, b2, hp⟩ := o_mount hI (xs (nI (7 * j) + nI 1).toNatClampNeg) (xs (nI (7 * j) + nI 2).toNatClampNeg) (xs (nI (7 * j) + nI 3).toNatClampNeg)
  refine run [] 12 ?_
  refine sd dL_1047 (w_in hL (by omega)) ?_
  refine run [] 12 ?_
  refine sd dL_1053 (w_in hL (by omega)) ?_
  refine run [] 12 ?_
  refine sd dL_1059 (w_in hL (by omega)) ?_
  refine run [] 12 ?_
  refine sc (as := [.ref (X 0), .int (xs (nI (7 * j) + nI 1).toNatClampNeg), .int (xs (nI (7 * j) + nI 2).toNatClampNeg), .int (xs (nI (7 * j) + nI 3).toNatClampNeg), .ref q]) (rest := []) dL_1061 lnk_mount okH_mount (by decide) rfl rfl rfl hP (by omega) (by omega) fun v η1 hv => ?_
  obtain ⟨rfl, ⟨vs, hy⟩, mc2, ms2, P2, hM, b3, b4, h2⟩ := hp v η1 hv
  refine run [] 12 ?_
  refine sd dL_1072 (w_in hL (by omega)) ?_
  refine run [] 12 ?_
  refine sd dL_1078 (w_in hL (by omega)) ?_
  refine run [] 12 ?_
  refine sd dL_1084 (w_in hL (by omega)) ?_
  refine run [(1412, 5)] 40 ?_
  refine ⟨vs, hy, mc2, ms2, P2, hM, by omega, by omega, fun v2 η2 hv2 => ?_⟩
  obtain ⟨y, σ', f', rfl, hI', hc⟩ := h2 v2 η2 hv2
  obtain ⟨α', τ', hx', hm', ht', hq', hf'⟩ := id hI'
  refine ⟨_, hm'.o, 0, 0, _, c_thrown hm', by omega, by omega, fun v3 η3 hv3 => ?_⟩
  obtain ⟨rfl, rfl⟩ := hv3
  refine ⟨fun c1 => ?_, fun c1 => absurd (cb_eq.mpr rfl) c1⟩
  refine ⟨fun c2 => hN _ _ _ _ _ _ hI' (by omega) (by omega), fun c2 => ?_⟩
  obtain ⟨e1, e2⟩ := hc (Classical.not_not.mp c2)
  refine ⟨1, f', 0, hf', nI_0.symm, by decide, ?_⟩
  have e3 : lg_cmp (f' 0) y.toInt64 = 0 := by rw [e1]; exact lg_same _
  exact ⟨fun c3 => hN _ _ _ _ _ _ hI' (by omega) (by omega), fun c3 => absurd e3 c3⟩
theorem dL_1127 : decode (jj_code mL_law) 1127 = .ok (.iaload, 1) := by decide +kernel
theorem dL_1140 : decode (jj_code mL_law) 1140 = .ok (.iaload, 1) := by decide +kernel
theorem dL_1129 : decode (jj_code mL_law) 1129 = .ok (.invokestatic 121, 3) := by decide +kernel
theorem lnk_release : Cond.methodLink (jj_nm mL_law).cls 121 (jj_nm mL_release) ∈ jj_G := by decide +kernel
theorem L_release {RC RS b L : Nat} {xs : Nat → Int32} {J : jj_K} {X Y : Nat → Nat} {q C S j k n : Nat} {σ : jj_S} {th : Int32} {f : Nat → Int64} {η : jj_H} (hJ : lw_J RC RS b L xs J) (hL : L ≤ 3584) (hj : 7 * j + 7 ≤ L) (hN : lw_H b L X Y q C S J 1412 j) (hI : w_I X Y q σ th f η) (hk : k + 8 ≤ C) (hn : n + 160 ≤ S) (hC : C ≤ RC) (hS : S ≤ RS) : J η k n 1121 [(0, .ref b), (1, .ref (X 0)), (2, .ref (Y 0)), (3, .ref q), (4, .int (nI (7 * j)))] [] := by
  obtain ⟨run, sd, -, sc, -, -⟩ := hJ
  obtain ⟨c, mc, ms, P, hP, b1, b2, hp⟩ := o_release hI (xs (nI (7 * j) + nI 1).toNatClampNeg)
  refine run [] 12 ?_
  refine sd dL_1127 (w_in hL (by omega)) ?_
  refine run [] 12 ?_
  refine sc (as := [.ref (X 0), .int (xs (nI (7 * j) + nI 1).toNatClampNeg), .ref q]) (rest := []) dL_1129 lnk_release okH_release (by decide) rfl rfl rfl hP (by omega) (by omega) fun v η1 hv => ?_
  obtain ⟨rfl, ⟨vs, hy⟩, mc2, ms2, P2, hM, b3, b4, h2⟩ := hp v η1 hv
  refine run [] 12 ?_
  refine sd dL_1140 (w_in hL (by omega)) ?_
  refine run [(1412, 5)] 40 ?_
  refine ⟨vs, hy, mc2, ms2, P2, hM, by omega, by omega, fun v2 η2 hv2 => ?_⟩
  obtain ⟨y, σ', f', rfl, hI', hc⟩ := h2 v2 η2 hv2
  obtain ⟨α', τ', hx', hm', ht', hq', hf'⟩ := id hI'
  refine ⟨_, hm'.o, 0, 0, _, c_thrown hm', by omega, by omega, fun v3 η3 hv3 => ?_⟩
  obtain ⟨rfl, rfl⟩ := hv3
  refine ⟨fun c1 => ?_, fun c1 => absurd (cb_eq.mpr rfl) c1⟩
  refine ⟨fun c2 => hN _ _ _ _ _ _ hI' (by omega) (by omega), fun c2 => ?_⟩
  obtain ⟨e1, e2⟩ := hc (Classical.not_not.mp c2)
  refine ⟨1, f', 0, hf', nI_0.symm, by decide, ?_⟩
  have e3 : lg_cmp (f' 0) y.toInt64 = 0 := by rw [e1]; exact lg_same _
  exact ⟨fun c3 => hN _ _ _ _ _ _ hI' (by omega) (by omega), fun c3 => absurd e3 c3⟩
theorem dL_1183 : decode (jj_code mL_law) 1183 = .ok (.iaload, 1) := by decide +kernel
theorem dL_1189 : decode (jj_code mL_law) 1189 = .ok (.iaload, 1) := by decide +kernel
theorem dL_1202 : decode (jj_code mL_law) 1202 = .ok (.iaload, 1) := by decide +kernel
theorem dL_1208 : decode (jj_code mL_law) 1208 = .ok (.iaload, 1) := by decide +kernel
theorem dL_1191 : decode (jj_code mL_law) 1191 = .ok (.invokestatic 125, 3) := by decide +kernel
theorem lnk_at : Cond.methodLink (jj_nm mL_law).cls 125 (jj_nm mL_at) ∈ jj_G := by decide +kernel
theorem L_at {RC RS b L : Nat} {xs : Nat → Int32} {J : jj_K} {X Y : Nat → Nat} {q C S j k n : Nat} {σ : jj_S} {th : Int32} {f : Nat → Int64} {η : jj_H} (hJ : lw_J RC RS b L xs J) (hL : L ≤ 3584) (hj : 7 * j + 7 ≤ L) (hN : lw_H b L X Y q C S J 1412 j) (hI : w_I X Y q σ th f η) (hk : k + 8 ≤ C) (hn : n + 160 ≤ S) (hC : C ≤ RC) (hS : S ≤ RS) : J η k n 1177 [(0, .ref b), (1, .ref (X 0)), (2, .ref (Y 0)), (3, .ref q), (4, .int (nI (7 * j)))] [] := by
  obtain ⟨run, sd, -, sc, -, -⟩ := hJ
  obtain ⟨c, mc, ms, P, hP, b1, b2, hp⟩ := o_at hI (xs (nI (7 * j) + nI 1).toNatClampNeg) (xs (nI (7 * j) + nI 2).toNatClampNeg)
  refine run [] 12 ?_
  refine sd dL_1183 (w_in hL (by omega)) ?_
  refine run [] 12 ?_
  refine sd dL_1189 (w_in hL (by omega)) ?_
  refine run [] 12 ?_
  refine sc (as := [.ref (X 0), .int (xs (nI (7 * j) + nI 1).toNatClampNeg), .int (xs (nI (7 * j) + nI 2).toNatClampNeg), .ref q]) (rest := []) dL_1191 lnk_at okH_at (by decide) rfl rfl rfl hP (by omega) (by omega) fun v η1 hv => ?_
  obtain ⟨rfl, ⟨vs, hy⟩, mc2, ms2, P2, hM, b3, b4, h2⟩ := hp v η1 hv
  refine run [] 12 ?_
  refine sd dL_1202 (w_in hL (by omega)) ?_
  refine run [] 12 ?_
  refine sd dL_1208 (w_in hL (by omega)) ?_
  refine run [(1412, 5)] 40 ?_
  refine ⟨vs, hy, mc2, ms2, P2, hM, by omega, by omega, fun v2 η2 hv2 => ?_⟩
  obtain ⟨y, σ', f', rfl, hI', hc⟩ := h2 v2 η2 hv2
  obtain ⟨α', τ', hx', hm', ht', hq', hf'⟩ := id hI'
  refine ⟨_, hm'.o, 0, 0, _, c_thrown hm', by omega, by omega, fun v3 η3 hv3 => ?_⟩
  obtain ⟨rfl, rfl⟩ := hv3
  refine ⟨fun c1 => ?_, fun c1 => absurd (cb_eq.mpr rfl) c1⟩
  refine ⟨fun c2 => hN _ _ _ _ _ _ hI' (by omega) (by omega), fun c2 => ?_⟩
  obtain ⟨e1, e2⟩ := hc (Classical.not_not.mp c2)
  refine ⟨1, f', 0, hf', nI_0.symm, by decide, ?_⟩
  have e3 : lg_cmp (f' 0) y.toInt64 = 0 := by rw [e1]; exact lg_same _
  exact ⟨fun c3 => hN _ _ _ _ _ _ hI' (by omega) (by omega), fun c3 => absurd e3 c3⟩
theorem dL_1251 : decode (jj_code mL_law) 1251 = .ok (.iaload, 1) := by decide +kernel
theorem dL_1264 : decode (jj_code mL_law) 1264 = .ok (.iaload, 1) := by decide +kernel
theorem dL_1253 : decode (jj_code mL_law) 1253 = .ok (.invokestatic 128, 3) := by decide +kernel
theorem lnk_advise : Cond.methodLink (jj_nm mL_law).cls 128 (jj_nm mL_advise) ∈ jj_G := by decide +kernel
theorem L_advise {RC RS b L : Nat} {xs : Nat → Int32} {J : jj_K} {X Y : Nat → Nat} {q C S j k n : Nat} {σ : jj_S} {th : Int32} {f : Nat → Int64} {η : jj_H} (hJ : lw_J RC RS b L xs J) (hL : L ≤ 3584) (hj : 7 * j + 7 ≤ L) (hN : lw_H b L X Y q C S J 1412 j) (hI : w_I X Y q σ th f η) (hk : k + 8 ≤ C) (hn : n + 160 ≤ S) (hC : C ≤ RC) (hS : S ≤ RS) : J η k n 1245 [(0, .ref b), (1, .ref (X 0)), (2, .ref (Y 0)), (3, .ref q), (4, .int (nI (7 * j)))] [] := by
  obtain ⟨run, sd, -, sc, -, -⟩ := hJ
  obtain ⟨c, mc, ms, P, hP, b1, b2, hp⟩ := o_advise hI (xs (nI (7 * j) + nI 1).toNatClampNeg)
  refine run [] 12 ?_
  refine sd dL_1251 (w_in hL (by omega)) ?_
  refine run [] 12 ?_
  refine sc (as := [.ref (X 0), .int (xs (nI (7 * j) + nI 1).toNatClampNeg), .ref q]) (rest := []) dL_1253 lnk_advise okH_advise (by decide) rfl rfl rfl hP (by omega) (by omega) fun v η1 hv => ?_
  obtain ⟨rfl, ⟨vs, hy⟩, mc2, ms2, P2, hM, b3, b4, h2⟩ := hp v η1 hv
  refine run [] 12 ?_
  refine sd dL_1264 (w_in hL (by omega)) ?_
  refine run [(1412, 5)] 40 ?_
  refine ⟨vs, hy, mc2, ms2, P2, hM, by omega, by omega, fun v2 η2 hv2 => ?_⟩
  obtain ⟨y, σ', f', rfl, hI', hc⟩ := h2 v2 η2 hv2
  obtain ⟨α', τ', hx', hm', ht', hq', hf'⟩ := id hI'
  refine ⟨_, hm'.o, 0, 0, _, c_thrown hm', by omega, by omega, fun v3 η3 hv3 => ?_⟩
  obtain ⟨rfl, rfl⟩ := hv3
  refine ⟨fun c1 => ?_, fun c1 => absurd (cb_eq.mpr rfl) c1⟩
  refine ⟨fun c2 => hN _ _ _ _ _ _ hI' (by omega) (by omega), fun c2 => ?_⟩
  obtain ⟨e1, e2⟩ := hc (Classical.not_not.mp c2)
  refine ⟨1, f', 0, hf', nI_0.symm, by decide, ?_⟩
  have e3 : lg_cmp (f' 0) y.toInt64 = 0 := by rw [e1]; exact lg_same _
  exact ⟨fun c3 => hN _ _ _ _ _ _ hI' (by omega) (by omega), fun c3 => absurd e3 c3⟩
theorem dL_1307 : decode (jj_code mL_law) 1307 = .ok (.iaload, 1) := by decide +kernel
theorem dL_1320 : decode (jj_code mL_law) 1320 = .ok (.iaload, 1) := by decide +kernel
theorem dL_1309 : decode (jj_code mL_law) 1309 = .ok (.invokestatic 131, 3) := by decide +kernel
theorem lnk_count : Cond.methodLink (jj_nm mL_law).cls 131 (jj_nm mL_count) ∈ jj_G := by decide +kernel
theorem L_count {RC RS b L : Nat} {xs : Nat → Int32} {J : jj_K} {X Y : Nat → Nat} {q C S j k n : Nat} {σ : jj_S} {th : Int32} {f : Nat → Int64} {η : jj_H} (hJ : lw_J RC RS b L xs J) (hL : L ≤ 3584) (hj : 7 * j + 7 ≤ L) (hN : lw_H b L X Y q C S J 1412 j) (hI : w_I X Y q σ th f η) (hk : k + 8 ≤ C) (hn : n + 160 ≤ S) (hC : C ≤ RC) (hS : S ≤ RS) : J η k n 1301 [(0, .ref b), (1, .ref (X 0)), (2, .ref (Y 0)), (3, .ref q), (4, .int (nI (7 * j)))] [] := by
  obtain ⟨run, sd, -, sc, -, -⟩ := hJ
  obtain ⟨c, mc, ms, P, hP, b1, b2, hp⟩ := o_count hI (xs (nI (7 * j) + nI 1).toNatClampNeg)
  refine run [] 12 ?_
  refine sd dL_1307 (w_in hL (by omega)) ?_
  refine run [] 12 ?_
  refine sc (as := [.ref (X 0), .int (xs (nI (7 * j) + nI 1).toNatClampNeg), .ref q]) (rest := []) dL_1309 lnk_count okH_count (by decide) rfl rfl rfl hP (by omega) (by omega) fun v η1 hv => ?_
  obtain ⟨rfl, ⟨vs, hy⟩, mc2, ms2, P2, hM, b3, b4, h2⟩ := hp v η1 hv
  refine run [] 12 ?_
  refine sd dL_1320 (w_in hL (by omega)) ?_
  refine run [(1412, 5)] 40 ?_
  refine ⟨vs, hy, mc2, ms2, P2, hM, by omega, by omega, fun v2 η2 hv2 => ?_⟩
  obtain ⟨y, σ', f', rfl, hI', hc⟩ := h2 v2 η2 hv2
  obtain ⟨α', τ', hx', hm', ht', hq', hf'⟩ := id hI'
  refine ⟨_, hm'.o, 0, 0, _, c_thrown hm', by omega, by omega, fun v3 η3 hv3 => ?_⟩
  obtain ⟨rfl, rfl⟩ := hv3
  refine ⟨fun c1 => ?_, fun c1 => absurd (cb_eq.mpr rfl) c1⟩
  refine ⟨fun c2 => hN _ _ _ _ _ _ hI' (by omega) (by omega), fun c2 => ?_⟩
  obtain ⟨e1, e2⟩ := hc (Classical.not_not.mp c2)
  refine ⟨1, f', 0, hf', nI_0.symm, by decide, ?_⟩
  have e3 : lg_cmp (f' 0) y.toInt64 = 0 := by rw [e1]; exact lg_same _
  exact ⟨fun c3 => hN _ _ _ _ _ _ hI' (by omega) (by omega), fun c3 => absurd e3 c3⟩
