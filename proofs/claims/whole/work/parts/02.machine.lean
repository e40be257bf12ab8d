/-! THE SMALL MACHINE: a world as a function from addresses to things; a step of one instruction over it, as what must hold; over it all methods are walked -/
abbrev jj_L : Type := List (Nat × Value)
abbrev jj_H : Type := Nat → Option va_E
/-- a method: name, code, locals, return type, parameters, frames below, words of locals below -/
abbrev jj_M : Type := MethodName × ByteArray × Nat × Option FieldType × Nat × Nat × Nat
def jj_nm (M : jj_M) : MethodName := M.1
def jj_code (M : jj_M) : ByteArray := M.2.1
def jj_mx (M : jj_M) : Nat := M.2.2.1
def jj_ret (M : jj_M) : Option FieldType := M.2.2.2.1
def jj_np (M : jj_M) : Nat := M.2.2.2.2.1
def jj_fr (M : jj_M) : Nat := M.2.2.2.2.2.1
def jj_lo (M : jj_M) : Nat := M.2.2.2.2.2.2
/-- a row of a method's table: the instruction, the next pc, a number (a local, a place in a table of the class, a target), an int, a long -/
abbrev jj_R : Type := Instr × Nat × Nat × Int32 × Int64
abbrev jj_T : Type := List (List (Option jj_R))
/-- of a class: its fields (pool number, class, place), its calls (pool number, kind, class of the receiver, method) -/
abbrev jj_E : Type := List (Nat × Nat × Nat) × List (Nat × Nat × Nat × jj_M)
def jj_nth {α : Type} : List α → Nat → Option α
  | [], _ => none
  | x :: _, 0 => some x
  | _ :: l, n + 1 => jj_nth l n
def jj_lk (T : jj_T) (pc : Nat) : Option jj_R := match jj_nth T (pc / 16) with
  | some l => match jj_nth l (pc % 16) with
    | some r => r
    | none => none
  | none => none
def jj_get : jj_L → Nat → Option Value
  | [], _ => none
  | (k, v) :: r, i => bif Nat.beq k i then some v else jj_get r i
def jj_k1 (i : Nat) (q : Nat × Value) : Bool := !(Nat.beq q.1 i) && !(Nat.beq (q.1 + 1) i && Nat.beq q.2.category 2)
def jj_k2 (i : Nat) (q : Nat × Value) : Bool := !(Nat.beq q.1 i) && (!(Nat.beq q.1 (i + 1)) && !(Nat.beq (q.1 + 1) i && Nat.beq q.2.category 2))
def jj_flt (f : Nat × Value → Bool) : jj_L → jj_L
  | [] => []
  | q :: r => bif f q then q :: jj_flt f r else jj_flt f r
def jj_set (f : Nat × Value → Bool) (i : Nat) (v : Value) : jj_L → jj_L
  | [] => [(i, v)]
  | q :: r => bif Nat.beq q.1 i then (i, v) :: jj_flt f r else bif f q then q :: jj_set f i v r else jj_set f i v r
/-- the list written out, then the rest -/
def jj_fc {α : Type} : List α → (List α → Prop) → Prop
  | [], k => k []
  | q :: r, k => jj_fc r (fun r' => k (q :: r'))
theorem jj_fc_eq {α : Type} : ∀ (l : List α) (k : List α → Prop), jj_fc l k = k l
  | [], _ => rfl
  | q :: r, k => by show jj_fc r (fun r' => k (q :: r')) = _; rw [jj_fc_eq r]
def jj_ty (t : Nat) : FieldType := match t with
  | 0 => .int
  | 1 => .long
  | 2 => .boolean
  | 3 => .object "StampBureau$Plate"
  | 4 => .object "StampBureau$Paper"
  | 5 => .object "StampBureau$Sheet"
  | 6 => .object "StampBureau$Stamp"
  | _ => .object "StampBureau$Flaw"
/-- the class, by its place among the kit's classes, whose objects an array of this type holds -/
def jj_tc (t : Nat) : Nat := match t with
  | 3 => 3
  | 4 => 2
  | 5 => 4
  | 6 => 5
  | _ => 1
def jj_tys (tyc : Nat → ClassId) : List (ClassId × FieldType) := [(tyc 0, jj_ty 0), (tyc 1, jj_ty 1), (tyc 2, jj_ty 2), (tyc 3, jj_ty 3), (tyc 4, jj_ty 4), (tyc 5, jj_ty 5), (tyc 6, jj_ty 6), (tyc 7, jj_ty 7)]
def jj_tr (tyc : Nat → ClassId) : va_E → va_E
  | .inl (k, x) => .inl (tyc k, x)
  | .inr o => .inr o
def jj_ws (tyc : Nat → ClassId) (ws : va_W) : va_W := ws.map (fun q => (q.1, jj_tr tyc q.2))
def jj_is (η : jj_H) (ws : va_W) : Prop := ∀ a e, η a = some e ↔ (a, e) ∈ ws
def jj_up (η : jj_H) (a : Nat) (e : va_E) : jj_H := fun b => if b = a then some e else η b
/-- the values of the two static rows of the check -/
def jj_sv (a q : Nat) : Int32 := match a, q with
  | 0, 0 => -1
  | 0, 2 => 1
  | 1, 1 => 1
  | 1, 3 => -1
  | _, _ => 0
def jj_dV (ty : FieldType) : Value := defaultValue ty
/-- what a new object of a class holds -/
def jj_def (ci : Nat) : List Value := match ci with
  | 0 => [.null]
  | 1 => [.int 0, .int 0, .int 0, .int 0]
  | 2 => [.int 0, .int 0, .int 0]
  | 3 => [.int 0, .int 0, .null, .int 0, .null]
  | 4 => [.null, .null, .int 0, .int 0, .int 0, .int 0, .int 0, .int 0, .long 0]
  | 5 => [.int 0, .null, .int 0, .int 0, .int 0, .int 0, .null, .int 0]
  | 6 => [.null, .null, .null, .null, .null, .null, .int 0, .int 0, .int 0, .int 0]
  | _ => [.int 0, .int 0, .null, .null, .null, .null, .int 0, .null, .null, .int 0, .null, .int 0, .null, .null, .null, .null, .null]
/-- nest mates' links, texts -/
def jj_NW : List Cond := [.methodLinkNest RX6 35 yX0_init RX6, .methodLinkNest RX0 17 yX6_placeAt RX6, .methodLinkNest RX0 29 yX6_rowStep RX6, .methodLinkNest RX0 33 yX6_columnStep RX6, .methodLinkNest RX3 66 yX6_placeAt RX6, .methodLinkNest RX4 42 yX6_placeAt RX6, .methodLinkNest RX4 46 yX6_rowStep RX6, .methodLinkNest RX4 50 yX6_columnStep RX6, .methodLinkNest RX4 66 yX6_opposite RX6, .methodLinkNest RX5 107 yX6_opposite RX6, .methodLinkNest RX5 118 yX6_rowStep RX6, .methodLinkNest RX5 121 yX6_columnStep RX6, .methodLinkNest RX5 46 yX6_remainder RX6, .methodLinkNest RX5 70 yX6_placeAt RX6]
def jj_STR : List (String × Nat × String) := [(RX6, 63, "rows and columns are 1 to 8"), (RX6, 70, "there are 6 plates"), (RX6, 86, "no such place on such a plate"), (RX6, 89, "kind is 0 to 4, from at least 0, to greater than from"), (RX6, 95, "the plate has 10 flaws"), (RX6, 110, "wide and high are 1 to 4"), (RX6, 112, "there are 4 papers"), (RX6, 121, "no such plate or paper"), (RX6, 123, "run is 0 to 999, seed 0 to 9999"), (RX6, 125, "there are 10 sheets"), (RX6, 134, "no such sheet"), (RX6, 136, "shifts are 0 to 3, gauges 5 to 16"), (RX6, 142, "something was torn from the sheet"), (RX6, 166, "no such place on such a sheet"), (RX6, 171, "it was torn before, or there are 40 stamps"), (RX6, 187, "no such stamp or side"), (RX6, 197, "more teeth than the gauge allows"), (RX6, 202, "the stamp is mounted"), (RX6, 210, "no such stamp, or what is not 0 to 10"), (RX6, 215, "both stamps are the same"), (RX6, 221, "no such stamp or side, or index is less than 0"), (RX6, 226, "no such stamp, or index is less than 0"), (RX6, 242, "no such stamp"), (RX6, 245, "row and column are 0 to 7"), (RX6, 251, "the stamp is mounted, or the place is taken"), (RX6, 257, "it does not fit one that is beside it"), (RX6, 263, "the stamp is not mounted"), (RX6, 276, "what is not 0 to 11")]
/-- what the walk takes of the world beside its own cells: nest mates' links, array classes, the statics of a throw, the check's two rows, the texts -/
def jj_W (A : Nat → Prop) (U : State) : Prop :=
  (∀ w ∈ jj_NW, va_Nw w U) ∧ (va_AO "StampBureau$Plate" U ∧ va_AO "StampBureau$Paper" U ∧ va_AO "StampBureau$Sheet" U ∧ va_AO "StampBureau$Stamp" U ∧ va_AO "StampBureau$Flaw" U) ∧ vx_Zq Bundle.tN "UNASSIGNED_STACK" Bundle.steD A U U.heap ∧ vx_Zq Bundle.tN "SUPPRESSED_SENTINEL" Bundle.listD A U U.heap ∧
  (∃ t, va_Z "StampBureauModel" "DOWN" "[I" (.ref t) A U U.heap ∧ va_T .int t 4 (fun j => .int (jj_sv 0 j)) A U U.heap) ∧
  (∃ t, va_Z "StampBureauModel" "ACROSS" "[I" (.ref t) A U U.heap ∧ va_T .int t 4 (fun j => .int (jj_sv 1 j)) A U U.heap) ∧
  ∀ q ∈ jj_STR, ∃ sa, vk_R q.1 q.2.1 q.2.2 sa U
theorem jj_W.same {A : Nat → Prop} {u U : State} (hv : u.vm = U.vm) (hh : u.heap = U.heap) (h : jj_W A u) : jj_W A U := by
  obtain ⟨h1, ⟨a1, a2, a3, a4, a5⟩, h3, h4, ⟨t5, h5, g5⟩, ⟨t6, h6, g6⟩, h7⟩ := h
  have hA : u.vm.Alike U.vm := hv ▸ Vm.Alike.refl u.vm
  refine ⟨fun w hw => ?_, ⟨va_AO.moved hA a1, va_AO.moved hA a2, va_AO.moved hA a3, va_AO.moved hA a4, va_AO.moved hA a5⟩, hh ▸ vx_Zq.moved hA h3, hh ▸ vx_Zq.moved hA h4, ⟨t5, hh ▸ va_Z.moved hA h5, hh ▸ va_T.moved hA g5⟩, ⟨t6, hh ▸ va_Z.moved hA h6, hh ▸ va_T.moved hA g6⟩, fun q hq => ?_⟩
  · have hz : w.onTables = true := by
      have : ∀ w ∈ jj_NW, w.onTables = true := by decide +kernel
      exact this w hw
    exact va_Nw.same hz hv (h1 w hw)
  · obtain ⟨sa, g⟩ := h7 q hq
    exact ⟨sa, vk_R.same hv.symm g⟩
/-- the same world later, seen by a callee that may change less -/
theorem jj_W.go {A B : Nat → Prop} {s U : State} (hW : s.WarmedH U.vm) (hk : ∀ a : Nat, a < s.heap.size → ¬ A a → U.heap[a]? = s.heap[a]?) (hAB : ∀ q, B q → A q) (h : jj_W A s) : jj_W B U := by
  obtain ⟨h1, ⟨a1, a2, a3, a4, a5⟩, h3, h4, ⟨t5, h5, g5⟩, ⟨t6, h6, g6⟩, h7⟩ := h
  have hA : s.vm.Alike U.vm := hW.alike
  refine ⟨fun w hw => ?_, ⟨va_AO.moved hA a1, va_AO.moved hA a2, va_AO.moved hA a3, va_AO.moved hA a4, va_AO.moved hA a5⟩, vx_Zq.narrow (vx_Zq.kept (vx_Zq.moved hA h3) hk) hAB, vx_Zq.narrow (vx_Zq.kept (vx_Zq.moved hA h4) hk) hAB,
    ⟨t5, va_Z.narrow (va_Z.kept (va_Z.moved hA h5) hk) hAB, va_T.narrow (va_T.kept (va_T.moved hA g5) hk) hAB⟩, ⟨t6, va_Z.narrow (va_Z.kept (va_Z.moved hA h6) hk) hAB, va_T.narrow (va_T.kept (va_T.moved hA g6) hk) hAB⟩, fun q hq => ?_⟩
  · have hz : ∀ w ∈ jj_NW, ∃ a i x h, w = .methodLinkNest a i x h := by
      intro w hw
      simp only [jj_NW, List.mem_cons, List.not_mem_nil, or_false] at hw
      rcases hw with rfl | rfl | rfl | rfl | rfl | rfl | rfl | rfl | rfl | rfl | rfl | rfl | rfl | rfl <;> exact ⟨_, _, _, _, rfl⟩
    obtain ⟨a, i, x, h, rfl⟩ := hz w hw
    exact va_Nw.warmM hW (h1 _ hw)
  · obtain ⟨sa, g⟩ := h7 q hq
    exact ⟨sa, vk_R.warm hW g⟩
/-- the words of every method of ours -/
abbrev jj_G : List Cond := wsL_law
def jj_wd (M : jj_M) : List Cond := .code (jj_nm M) (jj_code M) (jj_mx M) (jj_ret M) :: jj_G
def jj_rm (M : jj_M) (mc ms : Nat) : Room := { frames := jj_fr M, cells := mc, slots := ms, locals := jj_lo M }
def jj_B (D : va_G) (tyc : Nat → ClassId) (ws : va_W) (sz : Nat) (U : State) : Prop :=
  U.heap.size = sz ∧ va_P D vwCl (jj_ws tyc ws) U.heap ∧ va_K D vwCl (jj_tys tyc) U ∧ va_D (fun _ => True) (jj_ws tyc ws) ∧ jj_W (va_A (jj_ws tyc ws) sz) U
def jj_Q (D : va_G) (tyc : Nat → ClassId) (A : Nat → Prop) (post : Option Value → jj_H → Prop) : Array Value → State → Outcome → State → Prop := fun _ st o t =>
  (∃ (v : Option Value) (η : jj_H) (ws : va_W), o = .returned v ∧ post v η ∧ jj_is η ws ∧ va_P D vwCl (jj_ws tyc ws) t.heap ∧ va_D A (jj_ws tyc ws)) ∧ va_F A st t
def jj_XC (D : va_G) (tyc : Nat → ClassId) (A : Nat → Prop) (η : jj_H) (X : String → Prop) : String → State → State → Prop := fun E st t =>
  (X E ∧ ∃ ws : va_W, jj_is η ws ∧ va_P D vwCl (jj_ws tyc ws) t.heap ∧ va_D A (jj_ws tyc ws)) ∧ va_F A st t
/-- THE CONTRACT of a method, said over the small machine: from the world η, with these arguments, it returns with 'post', having made at most mc cells of ms slots -/
def jj_Ht (M : jj_M) (as : List Value) (η : jj_H) (mc ms : Nat) (post : Option Value → jj_H → Prop) : Prop :=
  ∀ (l : Launch) (D : va_G) (tyc : Nat → ClassId) (sz : Nat) (ws : va_W), l.stackTraces = false → jj_is η ws →
    Met l (jj_nm M) (jj_wd M) (jj_rm M mc ms) (va_Pc as (jj_B D tyc ws sz)) (jj_Q D tyc (va_A (jj_ws tyc ws) sz) post) mc ms (va_A (jj_ws tyc ws) sz)
/-- the same of a method that may throw: then its world is as it was -/
def jj_HX (M : jj_M) (as : List Value) (η : jj_H) (mc ms : Nat) (post : Option Value → jj_H → Prop) (X : String → Prop) : Prop :=
  ∀ (l : Launch) (D : va_G) (tyc : Nat → ClassId) (sz : Nat) (ws : va_W), l.stackTraces = false → jj_is η ws →
    vx_Met l (jj_nm M) (jj_wd M) (jj_rm M mc ms) (va_Pc as (jj_B D tyc ws sz)) (jj_Q D tyc (va_A (jj_ws tyc ws) sz) post) (jj_XC D tyc (va_A (jj_ws tyc ws) sz) η X) mc ms (va_A (jj_ws tyc ws) sz)
theorem jj_B.blind {D : va_G} {tyc : Nat → ClassId} {ws : va_W} {sz : Nat} {as : List Value} : FrameBlind (va_Pc as (jj_B D tyc ws sz)) := fun a U g mk h =>
  ⟨h.1, h.2.1, h.2.2.1, va_K.moved (u := U) (U := U.calling g mk a) (Vm.Alike.refl U.vm) h.2.2.2.1, h.2.2.2.2.1, jj_W.same (u := U) (U := U.calling g mk a) rfl rfl h.2.2.2.2.2⟩
theorem jj_Ht.mono {M : jj_M} {as : List Value} {η : jj_H} {mc ms : Nat} {post post' : Option Value → jj_H → Prop} (h : jj_Ht M as η mc ms post) (hp : ∀ v η', post v η' → post' v η') : jj_Ht M as η mc ms post' := by
  intro l D tyc sz ws hl hi
  refine MetFree.mono (h l D tyc sz ws hl hi) ?_
  sorry
