/-! THE WORLD AT THE LAW's ENTRY -/
theorem i_inst (k : Nat) (q : vw_C) (h : vwCl[k]? = some q) : Cond.instantiable q.1 q.2.2 ∈ lw_tbl := by
  match k, h with
  | 0, h => cases h; decide +kernel
  | 1, h => cases h; decide +kernel
  | 2, h => cases h; decide +kernel
  | 3, h => cases h; decide +kernel
  | 4, h => cases h; decide +kernel
  | 5, h => cases h; decide +kernel
  | 6, h => cases h; decide +kernel
  | 7, h => cases h; decide +kernel
  | k + 8, h => cases h
theorem i_arr0 {s : State} {args : Array Value} {ty : FieldType} (h : (Cond.arrayClass ty).before args s = true) (hp : ∀ C, ty ≠ .object C) : ∃ c, ArrOfT s c ty ∧ va_RA s c ty := by
  obtain ⟨c, k, comp, f1, f2, f3⟩ := Cond.arrayClass_spec h
  refine ⟨c, fun n z => ⟨fun k h => (by cases h), k, f2, comp, f3⟩, ?_⟩
  cases ty with
  | object C => exact absurd rfl (hp C)
  | _ => exact f1
theorem i_arr1 {s : State} {args : Array Value} {C : String} (h : (Cond.arrayOver (.object C)).before args s = true) : ∃ c, ArrOfT s c (.object C) ∧ va_RA s c (.object C) := by
  obtain ⟨comp, c, k, f1, f2, f3, f4, f5⟩ := Cond.arrayOver_spec h
  exact ⟨c, fun n z => ⟨fun k h => (by cases h), k, f3, comp, f4⟩, k, comp, f3, f4, f1, f5⟩
theorem i_arrs {s : State} {args : Array Value} (hts : ∀ w ∈ lw_tbl, w.before args s = true) (t : Nat) (ht : t < 8) : ∃ c, ArrOfT s c (jj_ty t) ∧ va_RA s c (jj_ty t) := by
  match t, ht with
  | 0, _ => exact i_arr0 (hts (.arrayClass .int) (by decide +kernel)) (fun C h => by cases h)
  | 1, _ => exact i_arr0 (hts (.arrayClass .long) (by decide +kernel)) (fun C h => by cases h)
  | 2, _ => exact i_arr0 (hts (.arrayClass .boolean) (by decide +kernel)) (fun C h => by cases h)
  | 3, _ => exact i_arr1 (hts (.arrayOver (.object "StampBureau$Plate")) (by decide +kernel))
  | 4, _ => exact i_arr1 (hts (.arrayOver (.object "StampBureau$Paper")) (by decide +kernel))
  | 5, _ => exact i_arr1 (hts (.arrayOver (.object "StampBureau$Sheet")) (by decide +kernel))
  | 6, _ => exact i_arr1 (hts (.arrayOver (.object "StampBureau$Stamp")) (by decide +kernel))
  | 7, _ => exact i_arr1 (hts (.arrayOver (.object "StampBureau$Flaw")) (by decide +kernel))
theorem i_K {s : State} {args : Array Value} (hts : ∀ w ∈ lw_tbl, w.before args s = true) : ∃ D tyc, va_K D vwCl (jj_tys tyc) s := by
  have hG : ∀ w ∈ jj_G, w.before args s = true := fun w h => hts w (wsL_law_in w h)
  have h1 : ∀ k : Nat, ∃ p : ClassId × (Nat → Nat), ∀ q : vw_C, vwCl[k]? = some q → u_Kn s q.1 q.2.1 q.2.2 p.1 p.2 := by
    intro k
    cases hq : vwCl[k]? with
    | none => exact ⟨((0 : Nat), fun _ => 0), fun q h => by cases h⟩
    | some q =>
      obtain ⟨c, i, h⟩ := u_known (C := q.1) (T := q.2.1) (N := q.2.2) hG (jj_cl k q hq).1 (hts _ (i_inst k q hq))
      exact ⟨(c, i), fun q' h' => by cases h'; exact h⟩
  have h2 : ∀ t : Nat, ∃ c : ClassId, t < 8 → ArrOfT s c (jj_ty t) ∧ va_RA s c (jj_ty t) := by
    intro t
    by_cases ht : t < 8
    · obtain ⟨c, h⟩ := i_arrs hts t ht
      exact ⟨c, fun _ => h⟩
    · exact ⟨(0 : Nat), fun h => absurd h ht⟩
  refine ⟨(fun k => (Classical.choose (h1 k)).1, fun k => (Classical.choose (h1 k)).2), fun t => Classical.choose (h2 t), fun k q hq => Classical.choose_spec (h1 k) q hq, fun k q hq => ?_⟩
  have h3 := fun t => Classical.choose_spec (h2 t)
  match k, hq with
  | 0, hq => cases hq; exact h3 0 (by decide)
  | 1, hq => cases hq; exact h3 1 (by decide)
  | 2, hq => cases hq; exact h3 2 (by decide)
  | 3, hq => cases hq; exact h3 3 (by decide)
  | 4, hq => cases hq; exact h3 4 (by decide)
  | 5, hq => cases hq; exact h3 5 (by decide)
  | 6, hq => cases hq; exact h3 6 (by decide)
  | 7, hq => cases hq; exact h3 7 (by decide)
  | k + 8, hq => cases hq
theorem i_NW : ∀ w ∈ jj_NW ++ jj_XW ++ jj_DW, w ∈ lw_tbl ∧ w.onTables = true := by decide +kernel
theorem i_STR : ∀ q ∈ jj_STR, Cond.stringRef q.1 q.2.1 q.2.2 ∈ lw_tbl := by decide +kernel
theorem i_NCn : ∀ q ∈ jj_NC, ∀ {args : Array Value} {s : State}, (Jvm.Cond.and given_1 narrow_1).before args s = true → (Cond.not (.castable q.1 q.2)).before args s = true := by
  intro q hq args s hgv
  have hf := flat_of_before _ hgv
  simp only [jj_NC, List.mem_cons, List.not_mem_nil, or_false] at hq
  rcases hq with rfl | rfl | rfl | rfl | rfl | rfl <;> exact hf _ (by decide +kernel)
