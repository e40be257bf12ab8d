/-! THE WORLD AT THE LAW's ENTRY: statics and texts -/
theorem i_tab {s : State} {args : Array Value} (hts : ∀ w ∈ lw_tbl, w.before args s = true) (hgv : (Jvm.Cond.and given_1 narrow_1).before args s = true) {A : Nat → Prop} (hA : ∀ a : Nat, a < s.heap.size → ¬ A a) :
    (∃ t, va_Z "StampBureauModel" "DOWN" "[I" (.ref t) A s s.heap ∧ va_T .int t 4 (fun j => .int (jj_sv 0 j)) A s s.heap) ∧ (∃ t, va_Z "StampBureauModel" "ACROSS" "[I" (.ref t) A s s.heap ∧ va_T .int t 4 (fun j => .int (jj_sv 1 j)) A s s.heap) := by
  have hf := flat_of_before _ hgv
  constructor
  · obtain ⟨t, ht, hT⟩ := va_Tof (tm := .static "StampBureauModel" "DOWN" "[I") (ty := .int) (N := 4) (f := fun j => .int (jj_sv 0 j)) (by decide) (hf (.arrayOf (.static "StampBureauModel" "DOWN" "[I") .int) (by decide +kernel)) (va_eqt (hf (.eq (.length (.static "StampBureauModel" "DOWN" "[I")) (.int 4)) (by decide +kernel))) (fun j hj => by
      match j, hj with
      | 0, _ => exact va_eqt (hf (.eq (.elem (.static "StampBureauModel" "DOWN" "[I") (.int 0)) (.int (-1))) (by decide +kernel))
      | 1, _ => exact va_eqt (hf (.eq (.elem (.static "StampBureauModel" "DOWN" "[I") (.int 1)) (.int 0)) (by decide +kernel))
      | 2, _ => exact va_eqt (hf (.eq (.elem (.static "StampBureauModel" "DOWN" "[I") (.int 2)) (.int 1)) (by decide +kernel))
      | 3, _ => exact va_eqt (hf (.eq (.elem (.static "StampBureauModel" "DOWN" "[I") (.int 3)) (.int 0)) (by decide +kernel))) hA
    exact ⟨t, va_Zof (hts (.laysStatic "StampBureauModel" "DOWN" "[I") (by decide +kernel)) (hts (.initialized "StampBureauModel") (by decide +kernel)) ht hA, hT⟩
  · obtain ⟨t, ht, hT⟩ := va_Tof (tm := .static "StampBureauModel" "ACROSS" "[I") (ty := .int) (N := 4) (f := fun j => .int (jj_sv 1 j)) (by decide) (hf (.arrayOf (.static "StampBureauModel" "ACROSS" "[I") .int) (by decide +kernel)) (va_eqt (hf (.eq (.length (.static "StampBureauModel" "ACROSS" "[I")) (.int 4)) (by decide +kernel))) (fun j hj => by
      match j, hj with
      | 0, _ => exact va_eqt (hf (.eq (.elem (.static "StampBureauModel" "ACROSS" "[I") (.int 0)) (.int 0)) (by decide +kernel))
      | 1, _ => exact va_eqt (hf (.eq (.elem (.static "StampBureauModel" "ACROSS" "[I") (.int 1)) (.int 1)) (by decide +kernel))
      | 2, _ => exact va_eqt (hf (.eq (.elem (.static "StampBureauModel" "ACROSS" "[I") (.int 2)) (.int 0)) (by decide +kernel))
      | 3, _ => exact va_eqt (hf (.eq (.elem (.static "StampBureauModel" "ACROSS" "[I") (.int 3)) (.int (-1))) (by decide +kernel))) hA
    exact ⟨t, va_Zof (hts (.laysStatic "StampBureauModel" "ACROSS" "[I") (by decide +kernel)) (hts (.initialized "StampBureauModel") (by decide +kernel)) ht hA, hT⟩
theorem i_thr {s : State} {args : Array Value} (hts : ∀ w ∈ lw_tbl, w.before args s = true) (hgv : (Jvm.Cond.and given_1 narrow_1).before args s = true) {A : Nat → Prop} (hA : ∀ a : Nat, a < s.heap.size → ¬ A a) :
    vx_Zq Bundle.tN "UNASSIGNED_STACK" Bundle.steD A s s.heap ∧ vx_Zq Bundle.tN "SUPPRESSED_SENTINEL" Bundle.listD A s s.heap := by
  have hf := flat_of_before _ hgv
  exact ⟨vx_Zqof (hts (.laysStatic Bundle.tN "UNASSIGNED_STACK" Bundle.steD) (by decide +kernel)) (hts (.initialized Bundle.tN) (by decide +kernel)) (hf (.isRef (.static Bundle.tN "UNASSIGNED_STACK" Bundle.steD)) (by decide +kernel)) hA,
    vx_Zqof (hts (.laysStatic Bundle.tN "SUPPRESSED_SENTINEL" Bundle.listD) (by decide +kernel)) (hts (.initialized Bundle.tN) (by decide +kernel)) (hf (.isRef (.static Bundle.tN "SUPPRESSED_SENTINEL" Bundle.listD)) (by decide +kernel)) hA⟩
theorem i_STR6 : ∀ q ∈ jj_STR, q.1 = RX6 := by decide +kernel
theorem i_str {s : State} {args : Array Value} (hts : ∀ w ∈ lw_tbl, w.before args s = true) : ∀ q ∈ jj_STR, ∃ sa, vk_R q.1 q.2.1 q.2.2 sa s := by
  intro q hq
  have h1 := hts _ (i_STR q hq)
  obtain ⟨cC, kC, hfc, -⟩ := Cond.instantiable_spec (hts (.instantiable RX6 10) (by decide +kernel))
  obtain ⟨k, cf, i, a, -, -, -, -, -, h2⟩ := Cond.stringRef_spec (by rw [i_STR6 q hq]; exact hfc) h1
  exact ⟨a, vk_R.of h1 h2⟩
theorem i_W {s : State} {args : Array Value} (hts : ∀ w ∈ lw_tbl, w.before args s = true) (hgv : (Jvm.Cond.and given_1 narrow_1).before args s = true) : jj_W (fun q : Nat => s.heap.size ≤ q) s := by
  have hA : ∀ a : Nat, a < s.heap.size → ¬ (fun q : Nat => s.heap.size ≤ q) a := fun a h => Nat.not_le.mpr h
  obtain ⟨t1, t2⟩ := i_tab hts hgv hA
  obtain ⟨z1, z2⟩ := i_thr hts hgv hA
  have nw : ∀ w ∈ jj_NW ++ jj_XW ++ jj_DW, va_Nw w s := fun w hw => va_Nw.of (i_NW w hw).2 (hts w (i_NW w hw).1)
  refine ⟨⟨fun w hw => nw w (List.mem_append_left _ (List.mem_append_left _ hw)), fun w hw => nw w (List.mem_append_left _ (List.mem_append_right _ hw)), fun w hw => nw w (List.mem_append_right _ hw), fun q hq => va_Nc.of (i_NCn q hq hgv)⟩, fun t h3 h8 C hC => ?_, z1, z2, t1, t2, i_str hts⟩
  match t, h3, h8, hC with
  | 3, _, _, hC => cases hC; exact va_AO.of (hts (.arrayOver (.object "StampBureau$Plate")) (by decide +kernel))
  | 4, _, _, hC => cases hC; exact va_AO.of (hts (.arrayOver (.object "StampBureau$Paper")) (by decide +kernel))
  | 5, _, _, hC => cases hC; exact va_AO.of (hts (.arrayOver (.object "StampBureau$Sheet")) (by decide +kernel))
  | 6, _, _, hC => cases hC; exact va_AO.of (hts (.arrayOver (.object "StampBureau$Stamp")) (by decide +kernel))
  | 7, _, _, hC => cases hC; exact va_AO.of (hts (.arrayOver (.object "StampBureau$Flaw")) (by decide +kernel))
