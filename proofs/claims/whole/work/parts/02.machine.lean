/-! THE SMALL MACHINE: a world as a function from addresses to things; a step of one instruction over it, as what must hold; over it all methods are walked -/
abbrev jj_L : Type := List (Nat × Value)
abbrev jj_H : Type := Nat → Option va_E
/-- a method: name, code, locals, return type, parameters, frames below, words of locals below -/
abbrev jj_M : Type := MethodName × ByteArray × Nat × Option FieldType × Nat × Nat × Nat
def jj_nm (M : jj_M) : MethodName := M.1
def jj_code (M : jj_M) : ByteArray := M.2.1
def jj_mx (M : jj_M) : Nat := M.2.2.1
def jj_ret (M : jj_M) : Option FieldType := M.2.2.2.1
def jj_np (M : jj_M) : Nat := M.2.2.2.2.1
def jj_fr (M : jj_M) : Nat := M.2.2.2.2.2.1
def jj_lo (M : jj_M) : Nat := M.2.2.2.2.2.2
/-- a row of a method's table: the instruction, the next pc, a number (a local, a place in a table of the class, a target), an int, a long -/
abbrev jj_R : Type := Instr × Nat × Nat × Int32 × Int64
abbrev jj_T : Type := List (List (Option jj_R))
/-- of a class: its fields (pool number, class, place), its calls (pool number, kind, class of the receiver, method) -/
abbrev jj_E : Type := List (Nat × Nat × Nat) × List (Nat × Nat × Nat × jj_M)
def jj_nth {α : Type} : List α → Nat → Option α
  | [], _ => none
  | x :: _, 0 => some x
  | _ :: l, n + 1 => jj_nth l n
def jj_lk (T : jj_T) (pc : Nat) : Option jj_R := match jj_nth T (pc / 16) with
  | some l => match jj_nth l (pc % 16) with
    | some r => r
    | none => none
  | none => none
def jj_get : jj_L → Nat → Option Value
  | [], _ => none
  | (k, v) :: r, i => bif Nat.beq k i then some v else jj_get r i
def jj_k1 (i : Nat) (q : Nat × Value) : Bool := !(Nat.beq q.1 i) && !(Nat.beq (q.1 + 1) i && Nat.beq q.2.category 2)
def jj_k2 (i : Nat) (q : Nat × Value) : Bool := !(Nat.beq q.1 i) && (!(Nat.beq q.1 (i + 1)) && !(Nat.beq (q.1 + 1) i && Nat.beq q.2.category 2))
def jj_flt (f : Nat × Value → Bool) : jj_L → jj_L
  | [] => []
  | q :: r => bif f q then q :: jj_flt f r else jj_flt f r
def jj_set (f : Nat × Value → Bool) (i : Nat) (v : Value) : jj_L → jj_L
  | [] => [(i, v)]
  | q :: r => bif Nat.beq q.1 i then (i, v) :: jj_flt f r else bif f q then q :: jj_set f i v r else jj_set f i v r
/-- the list written out, then the rest -/
def jj_fc {α : Type} : List α → (List α → Prop) → Prop
  | [], k => k []
  | q :: r, k => jj_fc r (fun r' => k (q :: r'))
theorem jj_fc_eq {α : Type} : ∀ (l : List α) (k : List α → Prop), jj_fc l k = k l
  | [], _ => rfl
  | q :: r, k => by show jj_fc r (fun r' => k (q :: r')) = _; rw [jj_fc_eq r]
def jj_ty (t : Nat) : FieldType := match t with
  | 0 => .int
  | 1 => .long
  | 2 => .boolean
  | 3 => .object "StampBureau$Plate"
  | 4 => .object "StampBureau$Paper"
  | 5 => .object "StampBureau$Sheet"
  | 6 => .object "StampBureau$Stamp"
  | _ => .object "StampBureau$Flaw"
/-- the class, by its place among the kit's classes, whose objects an array of this type holds -/
def jj_tc (t : Nat) : Nat := match t with
  | 3 => 3
  | 4 => 2
  | 5 => 4
  | 6 => 5
  | _ => 1
def jj_tys (tyc : Nat → ClassId) : List (ClassId × FieldType) := [(tyc 0, jj_ty 0), (tyc 1, jj_ty 1), (tyc 2, jj_ty 2), (tyc 3, jj_ty 3), (tyc 4, jj_ty 4), (tyc 5, jj_ty 5), (tyc 6, jj_ty 6), (tyc 7, jj_ty 7)]
def jj_tr (tyc : Nat → ClassId) : va_E → va_E
  | .inl (k, x) => .inl (tyc k, x)
  | .inr o => .inr o
def jj_ws (tyc : Nat → ClassId) (ws : va_W) : va_W := ws.map (fun q => (q.1, jj_tr tyc q.2))
def jj_is (η : jj_H) (ws : va_W) : Prop := ∀ a e, η a = some e ↔ (a, e) ∈ ws
def jj_up (η : jj_H) (a : Nat) (e : va_E) : jj_H := fun b => if b = a then some e else η b
/-- the values of the two static rows of the check -/
def jj_sv (a q : Nat) : Int32 := match a, q with
  | 0, 0 => -1
  | 0, 2 => 1
  | 1, 1 => 1
  | 1, 3 => -1
  | _, _ => 0
def jj_dV (ty : FieldType) : Value := defaultValue ty
/-- what a new object of a class holds -/
def jj_def (ci : Nat) : List Value := match ci with
  | 0 => [.null]
  | 1 => [.int 0, .int 0, .int 0, .int 0]
  | 2 => [.int 0, .int 0, .int 0]
  | 3 => [.int 0, .int 0, .null, .int 0, .null]
  | 4 => [.null, .null, .int 0, .int 0, .int 0, .int 0, .int 0, .int 0, .long 0]
  | 5 => [.int 0, .null, .int 0, .int 0, .int 0, .int 0, .null, .int 0]
  | 6 => [.null, .null, .null, .null, .null, .null, .int 0, .int 0, .int 0, .int 0]
  | _ => [.int 0, .int 0, .null, .null, .null, .null, .int 0, .null, .null, .int 0, .null, .int 0, .null, .null, .null, .null, .null]
/-- nest mates' links, texts -/
def jj_NW : List Cond := [.methodLinkNest RX6 35 yX0_init RX6, .methodLinkNest RX0 17 yX6_placeAt RX6, .methodLinkNest RX0 29 yX6_rowStep RX6, .methodLinkNest RX0 33 yX6_columnStep RX6, .methodLinkNest RX3 66 yX6_placeAt RX6, .methodLinkNest RX4 42 yX6_placeAt RX6, .methodLinkNest RX4 46 yX6_rowStep RX6, .methodLinkNest RX4 50 yX6_columnStep RX6, .methodLinkNest RX4 66 yX6_opposite RX6, .methodLinkNest RX5 107 yX6_opposite RX6, .methodLinkNest RX5 118 yX6_rowStep RX6, .methodLinkNest RX5 121 yX6_columnStep RX6, .methodLinkNest RX5 46 yX6_remainder RX6, .methodLinkNest RX5 70 yX6_placeAt RX6]
def jj_STR : List (String × Nat × String) := [(RX6, 63, "rows and columns are 1 to 8"), (RX6, 70, "there are 6 plates"), (RX6, 86, "no such place on such a plate"), (RX6, 89, "kind is 0 to 4, from at least 0, to greater than from"), (RX6, 95, "the plate has 10 flaws"), (RX6, 110, "wide and high are 1 to 4"), (RX6, 112, "there are 4 papers"), (RX6, 121, "no such plate or paper"), (RX6, 123, "run is 0 to 999, seed 0 to 9999"), (RX6, 125, "there are 10 sheets"), (RX6, 134, "no such sheet"), (RX6, 136, "shifts are 0 to 3, gauges 5 to 16"), (RX6, 142, "something was torn from the sheet"), (RX6, 166, "no such place on such a sheet"), (RX6, 171, "it was torn before, or there are 40 stamps"), (RX6, 187, "no such stamp or side"), (RX6, 197, "more teeth than the gauge allows"), (RX6, 202, "the stamp is mounted"), (RX6, 210, "no such stamp, or what is not 0 to 10"), (RX6, 215, "both stamps are the same"), (RX6, 221, "no such stamp or side, or index is less than 0"), (RX6, 226, "no such stamp, or index is less than 0"), (RX6, 242, "no such stamp"), (RX6, 245, "row and column are 0 to 7"), (RX6, 251, "the stamp is mounted, or the place is taken"), (RX6, 257, "it does not fit one that is beside it"), (RX6, 263, "the stamp is not mounted"), (RX6, 276, "what is not 0 to 11")]
/-- words of a throw that a call may not keep by themselves; pairs of classes that are not each other's -/
def jj_XW : List Cond := [.castable "java/lang/IllegalArgumentException" "java/lang/IllegalArgumentException", .castable "java/lang/IllegalStateException" "java/lang/IllegalStateException", .castable "java/lang/IndexOutOfBoundsException" "java/lang/IndexOutOfBoundsException"]
def jj_DW : List Cond := [.declares (Bundle.initS "java/lang/RuntimeException"), .declares (Bundle.initS "java/lang/Exception"), .declares (Bundle.initS Bundle.tN)]
def jj_NC : List (String × String) := [("java/lang/IllegalArgumentException", "java/lang/IllegalStateException"), ("java/lang/IllegalArgumentException", "java/lang/IndexOutOfBoundsException"), ("java/lang/IllegalStateException", "java/lang/IllegalArgumentException"), ("java/lang/IllegalStateException", "java/lang/IndexOutOfBoundsException"), ("java/lang/IndexOutOfBoundsException", "java/lang/IllegalArgumentException"), ("java/lang/IndexOutOfBoundsException", "java/lang/IllegalStateException")]
/-- what the walk takes of the world beside its own cells: nest mates' links, array classes, the statics of a throw, the check's two rows, the texts -/
def jj_W (A : Nat → Prop) (U : State) : Prop :=
  ((∀ w ∈ jj_NW, va_Nw w U) ∧ (∀ w ∈ jj_XW, va_Nw w U) ∧ (∀ w ∈ jj_DW, va_Nw w U) ∧ ∀ q ∈ jj_NC, va_Nc q.1 q.2 U) ∧ (∀ t, 3 ≤ t → t < 8 → ∀ C, jj_ty t = .object C → va_AO C U) ∧
  vx_Zq Bundle.tN "UNASSIGNED_STACK" Bundle.steD A U U.heap ∧ vx_Zq Bundle.tN "SUPPRESSED_SENTINEL" Bundle.listD A U U.heap ∧
  (∃ t, va_Z "StampBureauModel" "DOWN" "[I" (.ref t) A U U.heap ∧ va_T .int t 4 (fun j => .int (jj_sv 0 j)) A U U.heap) ∧
  (∃ t, va_Z "StampBureauModel" "ACROSS" "[I" (.ref t) A U U.heap ∧ va_T .int t 4 (fun j => .int (jj_sv 1 j)) A U U.heap) ∧
  ∀ q ∈ jj_STR, ∃ sa, vk_R q.1 q.2.1 q.2.2 sa U
theorem jj_W.same {A : Nat → Prop} {u U : State} (hv : u.vm = U.vm) (hh : u.heap = U.heap) (h : jj_W A u) : jj_W A U := by
  obtain ⟨⟨n1, n2, n3, n4⟩, h2, h3, h4, ⟨t5, h5, g5⟩, ⟨t6, h6, g6⟩, h7⟩ := h
  have hA : u.vm.Alike U.vm := hv ▸ Vm.Alike.refl u.vm
  have z1 : ∀ w ∈ jj_NW, w.onTables = true := by decide +kernel
  have z2 : ∀ w ∈ jj_XW, w.onTables = true := by decide +kernel
  have z3 : ∀ w ∈ jj_DW, w.onTables = true := by decide +kernel
  refine ⟨⟨fun w hw => va_Nw.same (z1 w hw) hv (n1 w hw), fun w hw => va_Nw.same (z2 w hw) hv (n2 w hw), fun w hw => va_Nw.same (z3 w hw) hv (n3 w hw), fun q hq => va_Nc.moved hA (n4 q hq)⟩, fun t t1 t2 C hC => va_AO.moved hA (h2 t t1 t2 C hC), hh ▸ vx_Zq.moved hA h3, hh ▸ vx_Zq.moved hA h4, ⟨t5, hh ▸ va_Z.moved hA h5, hh ▸ va_T.moved hA g5⟩, ⟨t6, hh ▸ va_Z.moved hA h6, hh ▸ va_T.moved hA g6⟩, fun q hq => ?_⟩
  obtain ⟨sa, g⟩ := h7 q hq
  exact ⟨sa, vk_R.same hv.symm g⟩
/-- the same world later, seen by a callee that may change less -/
theorem jj_W.go {A B : Nat → Prop} {s U : State} (hW : s.WarmedH U.vm) (hk : ∀ a : Nat, a < s.heap.size → ¬ A a → U.heap[a]? = s.heap[a]?) (hAB : ∀ q, B q → A q) (h : jj_W A s) : jj_W B U := by
  obtain ⟨⟨n1, n2, n3, n4⟩, h2, h3, h4, ⟨t5, h5, g5⟩, ⟨t6, h6, g6⟩, h7⟩ := h
  have hA : s.vm.Alike U.vm := hW.alike
  refine ⟨⟨fun w hw => ?_, fun w hw => ?_, fun w hw => ?_, fun q hq => va_Nc.moved hA (n4 q hq)⟩, fun t t1 t2 C hC => va_AO.moved hA (h2 t t1 t2 C hC), vx_Zq.narrow (vx_Zq.kept (vx_Zq.moved hA h3) hk) hAB, vx_Zq.narrow (vx_Zq.kept (vx_Zq.moved hA h4) hk) hAB,
    ⟨t5, va_Z.narrow (va_Z.kept (va_Z.moved hA h5) hk) hAB, va_T.narrow (va_T.kept (va_T.moved hA g5) hk) hAB⟩, ⟨t6, va_Z.narrow (va_Z.kept (va_Z.moved hA h6) hk) hAB, va_T.narrow (va_T.kept (va_T.moved hA g6) hk) hAB⟩, fun q hq => ?_⟩
  · have hz : ∀ w ∈ jj_NW, ∃ a i x h, w = .methodLinkNest a i x h := by
      intro w hw
      simp only [jj_NW, List.mem_cons, List.not_mem_nil, or_false] at hw
      rcases hw with rfl | rfl | rfl | rfl | rfl | rfl | rfl | rfl | rfl | rfl | rfl | rfl | rfl | rfl <;> exact ⟨_, _, _, _, rfl⟩
    obtain ⟨a, i, x, h, rfl⟩ := hz w hw
    exact va_Nw.warmM hW (n1 _ hw)
  · have h9 := n2 w hw
    simp only [jj_XW, List.mem_cons, List.not_mem_nil, or_false] at hw
    rcases hw with rfl | rfl | rfl <;> exact va_Nw.warmC hW h9
  · have h9 := n3 w hw
    simp only [jj_DW, List.mem_cons, List.not_mem_nil, or_false] at hw
    rcases hw with rfl | rfl | rfl <;> exact va_Nw.warmD hW h9
  · obtain ⟨sa, g⟩ := h7 q hq
    exact ⟨sa, vk_R.warm hW g⟩
/-- the words of every method of ours -/
abbrev jj_G : List Cond := wsL_law
def jj_wd (M : jj_M) : List Cond := .code (jj_nm M) (jj_code M) (jj_mx M) (jj_ret M) :: jj_G
def jj_rm (M : jj_M) (mc ms : Nat) : Room := { frames := jj_fr M, cells := mc, slots := ms, locals := jj_lo M }
def jj_B (D : va_G) (tyc : Nat → ClassId) (ws : va_W) (sz : Nat) (U : State) : Prop :=
  U.heap.size = sz ∧ va_P D vwCl (jj_ws tyc ws) U.heap ∧ va_K D vwCl (jj_tys tyc) U ∧ va_D (fun _ => True) (jj_ws tyc ws) ∧ jj_W (va_A (jj_ws tyc ws) sz) U
def jj_Q (D : va_G) (tyc : Nat → ClassId) (A : Nat → Prop) (post : Option Value → jj_H → Prop) : Array Value → State → Outcome → State → Prop := fun _ st o t =>
  (∃ (v : Option Value) (η : jj_H) (ws : va_W), o = .returned v ∧ post v η ∧ jj_is η ws ∧ va_P D vwCl (jj_ws tyc ws) t.heap ∧ va_D A (jj_ws tyc ws)) ∧ va_F A st t
def jj_XC (D : va_G) (tyc : Nat → ClassId) (A : Nat → Prop) (η : jj_H) (X : String → Prop) : String → State → State → Prop := fun E st t =>
  (X E ∧ ∃ ws : va_W, jj_is η ws ∧ va_P D vwCl (jj_ws tyc ws) t.heap ∧ va_D A (jj_ws tyc ws)) ∧ va_F A st t
/-- THE CONTRACT of a method, said over the small machine: from the world η, with these arguments, it returns with 'post', having made at most mc cells of ms slots -/
def jj_Ht (M : jj_M) (as : List Value) (η : jj_H) (mc ms : Nat) (post : Option Value → jj_H → Prop) : Prop :=
  ∀ (l : Launch) (D : va_G) (tyc : Nat → ClassId) (sz : Nat) (ws : va_W), l.stackTraces = false → jj_is η ws →
    Met l (jj_nm M) (jj_wd M) (jj_rm M mc ms) (va_Pc as (jj_B D tyc ws sz)) (jj_Q D tyc (va_A (jj_ws tyc ws) sz) post) mc ms (va_A (jj_ws tyc ws) sz)
/-- the same of a method that may throw: then its world is as it was -/
def jj_HX (M : jj_M) (as : List Value) (η : jj_H) (mc ms : Nat) (post : Option Value → jj_H → Prop) (X : String → Prop) : Prop :=
  ∀ (l : Launch) (D : va_G) (tyc : Nat → ClassId) (sz : Nat) (ws : va_W), l.stackTraces = false → jj_is η ws →
    vx_Met l (jj_nm M) (jj_wd M) (jj_rm M mc ms) (va_Pc as (jj_B D tyc ws sz)) (jj_Q D tyc (va_A (jj_ws tyc ws) sz) post) (jj_XC D tyc (va_A (jj_ws tyc ws) sz) η X) mc ms (va_A (jj_ws tyc ws) sz)
theorem jj_B.blind {D : va_G} {tyc : Nat → ClassId} {ws : va_W} {sz : Nat} {as : List Value} : FrameBlind (va_Pc as (jj_B D tyc ws sz)) := fun a U g mk h =>
  ⟨h.1, h.2.1, h.2.2.1, va_K.moved (u := U) (U := U.calling g mk a) (Vm.Alike.refl U.vm) h.2.2.2.1, h.2.2.2.2.1, jj_W.same (u := U) (U := U.calling g mk a) rfl rfl h.2.2.2.2.2⟩
theorem jj_Ht.mono {M : jj_M} {as : List Value} {η : jj_H} {mc ms : Nat} {post post' : Option Value → jj_H → Prop} (h : jj_Ht M as η mc ms post) (hp : ∀ v η', post v η' → post' v η') : jj_Ht M as η mc ms post' := by
  intro l D tyc sz ws hl hi
  refine MetFree.mono (h l D tyc sz ws hl hi) (fun _ _ q => q) (fun _ _ _ _ _ q => q) ?_
  intro a s o t _ ⟨⟨⟨v, η', w', h1, h2, h3⟩, h4⟩, h5⟩
  exact ⟨⟨⟨v, η', w', h1, hp _ _ h2, h3⟩, h4⟩, h5⟩
theorem jj_HX.mono {M : jj_M} {as : List Value} {η : jj_H} {mc ms : Nat} {post post' : Option Value → jj_H → Prop} {X X' : String → Prop} (h : jj_HX M as η mc ms post X) (hp : ∀ v η', post v η' → post' v η') (hx : ∀ E, X E → X' E) : jj_HX M as η mc ms post' X' := by
  intro l D tyc sz ws hl hi
  refine MetFree.mono (h l D tyc sz ws hl hi) (fun _ _ q => q) (fun _ _ _ _ _ q => q) ?_
  intro a s o t _ hq
  rcases hq with ⟨⟨⟨v, η', w', h1, h2, h3⟩, h4⟩, h5⟩ | ⟨q, e, E, ce, L, ⟨⟨g1, g2⟩, g3⟩, g4⟩
  · exact Or.inl ⟨⟨⟨v, η', w', h1, hp _ _ h2, h3⟩, h4⟩, h5⟩
  · exact Or.inr ⟨q, e, E, ce, L, ⟨⟨hx _ g1, g2⟩, g3⟩, g4⟩
theorem jj_HX.ret {M : jj_M} {as : List Value} {η : jj_H} {mc ms : Nat} {post : Option Value → jj_H → Prop} (h : jj_HX M as η mc ms post (fun _ => False)) : jj_Ht M as η mc ms post := by
  intro l D tyc sz ws hl hi
  refine MetFree.mono (h l D tyc sz ws hl hi) (fun _ _ q => q) (fun _ _ _ _ _ q => q) ?_
  intro a s o t _ hq
  rcases hq with h1 | ⟨q, e, E, ce, L, ⟨⟨g1, g2⟩, g3⟩, g4⟩
  · exact h1
  · exact g1.elim
/-- the type of a class's field -/
def jj_ft (c j : Nat) : FieldType := match c with
  | 0 => tyX0 j
  | 1 => tyX1 j
  | 2 => tyX2 j
  | 3 => tyX3 j
  | 4 => tyX4 j
  | 5 => tyX5 j
  | 6 => tyX6 j
  | _ => tyX7 j
def jj_fit (ty : FieldType) (v : Value) : Bool := match ty, v with
  | .int, .int _ => true
  | .long, .long _ => true
  | .object _, .ref _ => true
  | .object _, .null => true
  | .array _, .ref _ => true
  | .array _, .null => true
  | _, _ => false
theorem jj_fit_ok {ty : FieldType} {v : Value} (h : jj_fit ty v = true) : narrow ty v = v ∧ fits ty v = true := by
  cases ty <;> cases v <;> first | (cases h; done) | exact ⟨rfl, rfl⟩
/-- take n values off the stack -/
def jj_tk : Nat → List Value → List Value → (List Value → List Value → Prop) → Prop
  | 0, acc, st, k => k acc st
  | n + 1, acc, v :: st, k => jj_tk n (v :: acc) st k
  | _ + 1, _, [], _ => False
def jj_sum : List Value → Nat
  | [] => 0
  | v :: l => v.category + jj_sum l
theorem jj_sum_eq : ∀ l : List Value, (l.map fun v => v.category).sum = jj_sum l
  | [] => rfl
  | v :: l => by rw [List.map_cons, List.sum_cons, jj_sum_eq l]; rfl
def jj_pu (v : Option Value) (st : List Value) : List Value := match v with
  | some x => x :: st
  | none => st
def jj_cb (c : ClassFile.Cond) (x y : Int32) : Prop := match c with
  | .eq => x = y
  | .ne => ¬ x = y
  | .lt => x < y
  | .ge => y ≤ x
  | .gt => y < x
  | .le => x ≤ y
abbrev jj_K : Type := jj_H → Nat → Nat → Nat → jj_L → List Value → Prop
/-- A STEP of the small machine: what must hold before it, K behind it; at a return 'post', at a throw X -/
def jj_step (Z : jj_E) (T : jj_T) (RC RS : Nat) (post : Option Value → jj_H → Prop) (X : jj_H → String → Prop) (K : jj_K) : jj_K := fun η k n pc ls st =>
  match jj_lk T pc with
  | none => K η k n pc ls st
  | some (i, nx, a, ci, cl) => match i with
    | .iconst _ => K η k n nx ls (.int ci :: st)
    | .bipush _ => K η k n nx ls (.int ci :: st)
    | .sipush _ => K η k n nx ls (.int ci :: st)
    | .ldc _ => K η k n nx ls (.int ci :: st)
    | .ldc_w _ => K η k n nx ls (.int ci :: st)
    | .ldc2_w _ => K η k n nx ls (.long cl :: st)
    | .lconst _ => K η k n nx ls (.long cl :: st)
    | .dconst _ => K η k n nx ls (.double FP.dconst0 :: st)
    | .aconst_null => K η k n nx ls (.null :: st)
    | .iload _ => match jj_get ls a with | some (.int v) => K η k n nx ls (.int v :: st) | _ => False
    | .iload_n _ => match jj_get ls a with | some (.int v) => K η k n nx ls (.int v :: st) | _ => False
    | .lload _ => match jj_get ls a with | some (.long v) => K η k n nx ls (.long v :: st) | _ => False
    | .lload_n _ => match jj_get ls a with | some (.long v) => K η k n nx ls (.long v :: st) | _ => False
    | .dload _ => match jj_get ls a with | some (.double v) => K η k n nx ls (.double v :: st) | _ => False
    | .dload_n _ => match jj_get ls a with | some (.double v) => K η k n nx ls (.double v :: st) | _ => False
    | .aload _ => match jj_get ls a with | some (.ref v) => K η k n nx ls (.ref v :: st) | some .null => K η k n nx ls (.null :: st) | _ => False
    | .aload_n _ => match jj_get ls a with | some (.ref v) => K η k n nx ls (.ref v :: st) | some .null => K η k n nx ls (.null :: st) | _ => False
    | .istore _ => match st with | .int v :: r => jj_fc (jj_set (jj_k1 a) a (.int v) ls) (fun ls' => K η k n nx ls' r) | _ => False
    | .istore_n _ => match st with | .int v :: r => jj_fc (jj_set (jj_k1 a) a (.int v) ls) (fun ls' => K η k n nx ls' r) | _ => False
    | .lstore _ => match st with | .long v :: r => jj_fc (jj_set (jj_k2 a) a (.long v) ls) (fun ls' => K η k n nx ls' r) | _ => False
    | .lstore_n _ => match st with | .long v :: r => jj_fc (jj_set (jj_k2 a) a (.long v) ls) (fun ls' => K η k n nx ls' r) | _ => False
    | .dstore _ => match st with | .double v :: r => jj_fc (jj_set (jj_k2 a) a (.double v) ls) (fun ls' => K η k n nx ls' r) | _ => False
    | .dstore_n _ => match st with | .double v :: r => jj_fc (jj_set (jj_k2 a) a (.double v) ls) (fun ls' => K η k n nx ls' r) | _ => False
    | .astore _ => match st with
      | .ref v :: r => jj_fc (jj_set (jj_k1 a) a (.ref v) ls) (fun ls' => K η k n nx ls' r)
      | .null :: r => jj_fc (jj_set (jj_k1 a) a .null ls) (fun ls' => K η k n nx ls' r)
      | _ => False
    | .astore_n _ => match st with
      | .ref v :: r => jj_fc (jj_set (jj_k1 a) a (.ref v) ls) (fun ls' => K η k n nx ls' r)
      | .null :: r => jj_fc (jj_set (jj_k1 a) a .null ls) (fun ls' => K η k n nx ls' r)
      | _ => False
    | .iinc _ _ => match jj_get ls a with | some (.int v) => jj_fc (jj_set (jj_k1 a) a (.int (v + ci)) ls) (fun ls' => K η k n nx ls' st) | _ => False
    | .dup => match st with | .int v :: r => K η k n nx ls (.int v :: .int v :: r) | .ref v :: r => K η k n nx ls (.ref v :: .ref v :: r) | _ => False
    | .dup2 => match st with | .int v :: .ref w :: r => K η k n nx ls (.int v :: .ref w :: .int v :: .ref w :: r) | _ => False
    | .iadd => match st with | .int y :: .int x :: r => K η k n nx ls (.int (x + y) :: r) | _ => False
    | .isub => match st with | .int y :: .int x :: r => K η k n nx ls (.int (x - y) :: r) | _ => False
    | .imul => match st with | .int y :: .int x :: r => K η k n nx ls (.int (x * y) :: r) | _ => False
    | .iand => match st with | .int y :: .int x :: r => K η k n nx ls (.int (x &&& y) :: r) | _ => False
    | .ior => match st with | .int y :: .int x :: r => K η k n nx ls (.int (x ||| y) :: r) | _ => False
    | .idiv => match st with | .int y :: .int x :: r => ¬ y = 0 ∧ K η k n nx ls (.int (x / y) :: r) | _ => False
    | .irem => match st with | .int y :: .int x :: r => ¬ y = 0 ∧ K η k n nx ls (.int (x - x / y * y) :: r) | _ => False
    | .ishl => match st with | .int y :: .int x :: r => K η k n nx ls (.int (x <<< (y &&& 31)) :: r) | _ => False
    | .iushr => match st with | .int y :: .int x :: r => K η k n nx ls (.int (x.toUInt32 >>> (y.toUInt32 &&& Int32.toUInt32 31)).toInt32 :: r) | _ => False
    | .ladd => match st with | .long y :: .long x :: r => K η k n nx ls (.long (x + y) :: r) | _ => False
    | .lsub => match st with | .long y :: .long x :: r => K η k n nx ls (.long (x - y) :: r) | _ => False
    | .lmul => match st with | .long y :: .long x :: r => K η k n nx ls (.long (x * y) :: r) | _ => False
    | .land => match st with | .long y :: .long x :: r => K η k n nx ls (.long (x &&& y) :: r) | _ => False
    | .lor => match st with | .long y :: .long x :: r => K η k n nx ls (.long (x ||| y) :: r) | _ => False
    | .lxor => match st with | .long y :: .long x :: r => K η k n nx ls (.long (x ^^^ y) :: r) | _ => False
    | .lshl => match st with | .int y :: .long x :: r => K η k n nx ls (.long (x <<< (y.toInt64 &&& 63)) :: r) | _ => False
    | .lushr => match st with | .int y :: .long x :: r => K η k n nx ls (.long (x.toUInt64 >>> (y.toInt64.toUInt64 &&& Int64.toUInt64 63)).toInt64 :: r) | _ => False
    | .lcmp => match st with | .long y :: .long x :: r => K η k n nx ls (.int (lg_cmp x y) :: r) | _ => False
    | .i2l => match st with | .int x :: r => K η k n nx ls (.long x.toInt64 :: r) | _ => False
    | .l2i => match st with | .long x :: r => K η k n nx ls (.int x.toInt32 :: r) | _ => False
    | .i2d => match st with | .int x :: r => K η k n nx ls (.double (FP.i2d x) :: r) | _ => False
    | .dcmp op => match st with | .double y :: .double x :: r => K η k n nx ls (.int (Op.cmpValue (FP.dcmp x y) op) :: r) | _ => False
    | .goto _ => K η k n a ls st
    | .ifCond c _ => match st with | .int x :: r => (jj_cb c x 0 → K η k n a ls r) ∧ (¬ jj_cb c x 0 → K η k n nx ls r) | _ => False
    | .if_icmp c _ => match st with | .int y :: .int x :: r => (jj_cb c x y → K η k n a ls r) ∧ (¬ jj_cb c x y → K η k n nx ls r) | _ => False
    | .tableswitch d lo hi os => match st with
      | .int x :: r => (∃ (i : Nat) (o : Int) (t : Nat), x.toInt = lo + i ∧ x.toInt ≤ hi ∧ jj_nth os.toList i = some o ∧ (pc : Int) + o = t ∧ K η k n t ls r) ∨ ((x.toInt < lo ∨ hi < x.toInt) ∧ ∃ t : Nat, (pc : Int) + d = t ∧ K η k n t ls r)
      | _ => False
    | .ifnull _ => match st with | .null :: r => K η k n a ls r | .ref _ :: r => K η k n nx ls r | _ => False
    | .ifnonnull _ => match st with | .null :: r => K η k n nx ls r | .ref _ :: r => K η k n a ls r | _ => False
    | .getfield _ => match st with
      | .ref b :: r => match jj_nth Z.1 a with
        | some (_, c, j) => ∃ fs, η b = some (.inr (c, fs)) ∧ (match jj_nth fs j with | some v => K η k n nx ls (v :: r) | none => False)
        | none => False
      | _ => False
    | .putfield _ => match st with
      | v :: .ref b :: r => match jj_nth Z.1 a with
        | some (_, c, j) => ∃ fs, η b = some (.inr (c, fs)) ∧ (bif Nat.blt j fs.length && jj_fit (jj_ft c j) v then jj_fc (fs.set j v) (fun fs' => K (jj_up η b (.inr (c, fs'))) k n nx ls r) else False)
        | none => False
      | _ => False
    | .getstatic _ => match jj_lk T nx with
      | some (.iload_n _, nx2, a2, _, _) => match jj_lk T nx2 with
        | some (.iaload, nx3, _, _, _) => match jj_get ls a2 with | some (.int v) => ∃ q, v = nI q ∧ q < 4 ∧ K η k n nx3 ls (.int (jj_sv a q) :: st) | _ => False
        | _ => False
      | some (.iload _, nx2, a2, _, _) => match jj_lk T nx2 with
        | some (.iaload, nx3, _, _, _) => match jj_get ls a2 with | some (.int v) => ∃ q, v = nI q ∧ q < 4 ∧ K η k n nx3 ls (.int (jj_sv a q) :: st) | _ => False
        | _ => False
      | _ => False
    | .iaload => match st with | .int i :: .ref b :: r => ∃ m f j, η b = some (.inl (0, m, .inl f)) ∧ i = nI j ∧ j < m ∧ (bif Nat.blt m 2147483648 then K η k n nx ls (.int (f j) :: r) else False) | _ => False
    | .baload => match st with | .int i :: .ref b :: r => ∃ m f j, η b = some (.inl (2, m, .inl f)) ∧ i = nI j ∧ j < m ∧ (bif Nat.blt m 2147483648 then K η k n nx ls (.int (f j) :: r) else False) | _ => False
    | .laload => match st with | .int i :: .ref b :: r => ∃ m f j, η b = some (.inl (1, m, .inr (.inl f))) ∧ i = nI j ∧ j < m ∧ (bif Nat.blt m 2147483648 then K η k n nx ls (.long (f j) :: r) else False) | _ => False
    | .aaload => match st with | .int i :: .ref b :: r => ∃ t m f j o, η b = some (.inl (t, m, .inr (.inr (.inr (.inr f))))) ∧ i = nI j ∧ j < m ∧ f j = o ∧ (bif Nat.blt m 2147483648 && Nat.ble 3 t && Nat.blt t 8 then K η k n nx ls (va_rf o :: r) else False) | _ => False
    | .iastore => match st with | .int v :: .int i :: .ref b :: r => ∃ m f j, η b = some (.inl (0, m, .inl f)) ∧ i = nI j ∧ j < m ∧ (bif Nat.blt m 2147483648 then K (jj_up η b (.inl (0, m, .inl (upd f j v)))) k n nx ls r else False) | _ => False
    | .bastore => match st with | .int v :: .int i :: .ref b :: r => ∃ m f j, η b = some (.inl (2, m, .inl f)) ∧ i = nI j ∧ j < m ∧ (bif Nat.blt m 2147483648 then K (jj_up η b (.inl (2, m, .inl (upd f j (vp_nar .boolean v))))) k n nx ls r else False) | _ => False
    | .lastore => match st with | .long v :: .int i :: .ref b :: r => ∃ m f j, η b = some (.inl (1, m, .inr (.inl f))) ∧ i = nI j ∧ j < m ∧ (bif Nat.blt m 2147483648 then K (jj_up η b (.inl (1, m, .inr (.inl (vp_updL f j v))))) k n nx ls r else False) | _ => False
    | .aastore => match st with
      | .ref v :: .int i :: .ref b :: r => ∃ t m f j vs, η b = some (.inl (t, m, .inr (.inr (.inr (.inr f))))) ∧ η v = some (.inr (jj_tc t, vs)) ∧ i = nI j ∧ j < m ∧ (bif Nat.blt m 2147483648 && Nat.ble 3 t && Nat.blt t 8 then K (jj_up η b (.inl (t, m, .inr (.inr (.inr (.inr (va_up f j (some v)))))))) k n nx ls r else False)
      | .null :: .int i :: .ref b :: r => ∃ t m f j, η b = some (.inl (t, m, .inr (.inr (.inr (.inr f))))) ∧ i = nI j ∧ j < m ∧ (bif Nat.blt m 2147483648 && Nat.ble 3 t && Nat.blt t 8 then K (jj_up η b (.inl (t, m, .inr (.inr (.inr (.inr (va_up f j none))))))) k n nx ls r else False)
      | _ => False
    | .arraylength => match st with | .ref b :: r => ∃ t m u, η b = some (.inl (t, m, u)) ∧ (bif Nat.blt t 8 then K η k n nx ls (.int (nI m) :: r) else False) | _ => False
    | .newarray _ => match st with
      | .int i :: r => ∃ m, i = nI m ∧ m < 100000 ∧ k + 1 ≤ RC ∧ n + m ≤ RS ∧ ∀ q, η q = none → K (jj_up η q (.inl (a, m, (match a with | 1 => .inr (.inl (fun _ => 0)) | _ => .inl (fun _ => 0))))) (k + 1) (n + m) nx ls (.ref q :: r)
      | _ => False
    | .anewarray _ => match st with
      | .int i :: r => ∃ m, i = nI m ∧ m < 100000 ∧ k + 1 ≤ RC ∧ n + m ≤ RS ∧ ∀ q, η q = none → K (jj_up η q (.inl (a, m, .inr (.inr (.inr (.inr (fun _ => none))))))) (k + 1) (n + m) nx ls (.ref q :: r)
      | _ => False
    | .new _ => bif Nat.ble 100 a then (match st with | [] => X η (match a with | 100 => "java/lang/IllegalArgumentException" | 101 => "java/lang/IllegalStateException" | _ => "java/lang/IndexOutOfBoundsException") ∧ k + 1 ≤ RC ∧ n + 6 ≤ RS | _ => False)
      else k + 1 ≤ RC ∧ n + (jj_def a).length ≤ RS ∧ ∀ q, η q = none → K (jj_up η q (.inr (a, jj_def a))) (k + 1) (n + (jj_def a).length) nx ls (.ref q :: st)
    | .invokevirtual _ => match jj_nth Z.2 a with
      | some (_, _, c, M) => jj_tk (jj_np M) [] st (fun as r => match r with
        | .ref b :: r => bif Nat.ble (jj_sum r) 8 then (∃ vs, η b = some (.inr (c, vs)) ∧ ∃ mc ms post', jj_Ht M (.ref b :: as) η mc ms post' ∧ k + mc ≤ RC ∧ n + ms ≤ RS ∧ ∀ v η', post' v η' → K η' (k + mc) (n + ms) nx ls (jj_pu v r)) else False
        | _ => False)
      | none => False
    | .invokespecial _ => match jj_nth Z.2 a with
      | some (_, 5, _, _) => match st with | .ref _ :: r => bif Nat.ble (jj_sum r) 8 then K η k n nx ls r else False | _ => False
      | some (_, _, _, M) => jj_tk (jj_np M) [] st (fun as r => match r with
        | .ref b :: r => bif Nat.ble (jj_sum r) 8 then (∃ mc ms post', jj_Ht M (.ref b :: as) η mc ms post' ∧ k + mc ≤ RC ∧ n + ms ≤ RS ∧ ∀ v η', post' v η' → K η' (k + mc) (n + ms) nx ls (jj_pu v r)) else False
        | _ => False)
      | none => False
    | .invokestatic _ => match jj_nth Z.2 a with
      | some (_, 6, _, _) => match st with | .int y :: .int x :: r => bif Nat.ble (jj_sum r) 8 then (k ≤ RC ∧ n ≤ RS ∧ K η k n nx ls (.int (if x < y then y else x) :: r)) else False | _ => False
      | some (_, 7, _, _) => match st with
        | .int l :: .int d :: .ref b :: .int s :: .ref b0 :: r => bif Nat.ble (jj_sum r) 8 then (∃ m0 f m1 g s' d' l', η b0 = some (.inl (0, m0, .inl f)) ∧ η b = some (.inl (0, m1, .inl g)) ∧ s = nI s' ∧ d = nI d' ∧ l = nI l' ∧ s' + l' ≤ m0 ∧ d' + l' ≤ m1 ∧ (bif Nat.blt m0 2147483648 && Nat.blt m1 2147483648 then K (jj_up η b (.inl (0, m1, .inl (va_cpy f g s' d' l')))) k n nx ls r else False)) else False
        | _ => False
      | some (_, _, _, M) => jj_tk (jj_np M) [] st (fun as r => bif Nat.ble (jj_sum r) 8 then (∃ mc ms post', jj_Ht M as η mc ms post' ∧ k + mc ≤ RC ∧ n + ms ≤ RS ∧ ∀ v η', post' v η' → K η' (k + mc) (n + ms) nx ls (jj_pu v r)) else False)
      | none => False
    | .ireturn => match st with | [.int v] => (match a with | 1 => (v = 0 ∨ v = 1) | _ => True) ∧ post (some (.int v)) η ∧ k ≤ RC ∧ n ≤ RS | _ => False
    | .lreturn => match st with | [.long v] => post (some (.long v)) η ∧ k ≤ RC ∧ n ≤ RS | _ => False
    | .dreturn => match st with | [.double v] => post (some (.double v)) η ∧ k ≤ RC ∧ n ≤ RS | _ => False
    | .areturn => match st with | [.ref v] => post (some (.ref v)) η ∧ k ≤ RC ∧ n ≤ RS | [.null] => post (some .null) η ∧ k ≤ RC ∧ n ≤ RS | _ => False
    | .return_ => match st with | [] => post none η ∧ k ≤ RC ∧ n ≤ RS | _ => False
    | _ => K η k n pc ls st
/-- f steps -/
noncomputable def jj_ex (Z : jj_E) (T : jj_T) (RC RS : Nat) (post : Option Value → jj_H → Prop) (X : jj_H → String → Prop) (K : jj_K) (f : Nat) : jj_K := Nat.rec (motive := fun _ => jj_K) K (fun _ k => jj_step Z T RC RS post X k) f
