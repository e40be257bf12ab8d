/-! THE JUDGEMENT: the machine, standing in a method at pc over a world that the small machine's world pictures, comes to the method's end -/
abbrev jj_X : Type := Program × Launch × Env × Room × State × MethodId × Array Value × List Frame × Method × Code × (State → Prop) × va_G × (Nat → ClassId) × (Nat → Prop)
def jj_J (x : jj_X) (η : jj_H) (k n pc : Nat) (ls : jj_L) (st : List Value) : Prop := match x with
  | (p, l, e, R, s, m, args, below, meth, c, Q, D, tyc, A) => ∀ (ws : va_W) (H : Heap) (locs : List Loc) (lsA : Array Slot), jj_is η ws → va_P D vwCl (jj_ws tyc ws) H → va_D A (jj_ws tyc ws) → va_S A s.heap H locs → lv_has lsA c.maxLocals ls → W p l e R s m args below meth c H locs k n Q (F0 m pc lsA st)
/-- what stands fast while a method runs -/
def jj_Cx (M : jj_M) (RC RS : Nat) (x : jj_X) : Prop := match x with
  | (p, l, _, R, s, m, args, _, meth, c, _, D, tyc, A) => p.tables.exec = Jvm.exec ∧ c.code = jj_code M ∧ c.maxLocals = jj_mx M ∧ s.vm.findClass (jj_nm M).cls = some m.cls ∧ (∀ w ∈ jj_G, w.before args s = true) ∧ meth.locks = false ∧ meth.sig.returnType = jj_ret M ∧ meth.name = (jj_nm M).name ∧ R.frames = jj_fr M ∧ R.locals = jj_lo M ∧ R.cells = RC ∧ R.slots = RS ∧ va_K D vwCl (jj_tys tyc) s ∧ (∀ q, s.heap.size ≤ q → A q) ∧ jj_W A s ∧ l.stackTraces = false
/-- how the method is to end -/
def jj_En (post : Option Value → jj_H → Prop) (X : jj_H → String → Prop) (x : jj_X) : Prop := match x with
  | (_, _, _, R, s, _, args, below, _, c, Q, D, tyc, A) => ∃ (η0 : jj_H) (X0 : String → Prop), Q = vx_MQ below (jj_Q D tyc A post) (jj_XC D tyc A η0 X0) args s R.cells R.slots A ∧ (∀ η E, X η E → η = η0 ∧ X0 E ∧ ∀ z ∈ c.exceptionTable.toList, False)
theorem jj_G_good : ∀ w ∈ jj_G, (w.onTables && w.keeps) = true ∨ ∃ ty, w = .arrayClass ty := fun w h => (jg_law w h).2
theorem jj_GoodG : GoodIn jj_G jj_G := fun w h => ⟨h, jj_G_good w h⟩
theorem jj_wd_good {M : jj_M} (h : jj_Mok M) : GoodIn jj_G (jj_wd M) := by
  intro w hw
  rcases List.mem_cons.mp hw with rfl | hw
  · exact jj_GoodG _ h.1
  · exact jj_GoodG _ hw
/-- behind a call -/
theorem jj_back {p : Program} {l : Launch} {e : Env} {R : Room} {s : State} {m : MethodId} {args : Array Value} {below : List Frame} {meth : Method} {c : Code} {Q : State → Prop} {D : va_G} {tyc : Nat → ClassId} {A : Nat → Prop}
    {k n pc mc ms : Nat} {ls : jj_L} {rest st0 : List Value} {post : Option Value → jj_H → Prop} {ws : va_W} {H : Heap} {locs : List Loc} {lsA : Array Slot}
    (hD : va_D A (jj_ws tyc ws)) (hS : va_S A s.heap H locs) (hA : ∀ q, s.heap.size ≤ q → A q) (hl : lv_has lsA c.maxLocals ls)
    (hr : va_Run p l e R s m args below meth c H locs k n mc ms (F0 m pc lsA st0) rest (jj_Q D tyc (va_A (jj_ws tyc ws) H.size) post #[]) (va_A (jj_ws tyc ws) H.size))
    (kk : ∀ v η', post v η' → jj_J (p, l, e, R, s, m, args, below, meth, c, Q, D, tyc, A) η' (k + mc) (n + ms) (pc + 3) ls (jj_pu v rest)) :
    W p l e R s m args below meth c H locs k n Q (F0 m pc lsA st0) := by
  have hF : ∀ q, va_A (jj_ws tyc ws) H.size q → A q := by
    intro q hq
    rcases hq with ⟨i, e, h⟩ | h
    · exact hD.2 i (q, e) h
    · exact hA q (Nat.le_trans hS.1 h)
  intro T hT X
  obtain ⟨v, st₀, t, T', L, h0, X', hL, e1, e2, ⟨⟨v', η', ws', hv, hp, hi, hP', hD'⟩, hz, hk⟩, st⟩ := hr T hT X
  cases hv
  rw [h0] at hz hk
  have hS' : va_S A s.heap T'.heap (locs ++ L) := ⟨Nat.le_trans hS.1 (by rw [e1]; exact hz), fun q h1 h2 => by rw [e1, hk q (Nat.lt_of_lt_of_le h1 hS.1) (fun z => h2 (hF q z))]; exact hS.2.1 q h1 h2, fun q hq => by
      rcases List.mem_append.mp hq with h | h
      · exact hS.2.2 q h
      · exact hF _ (hL q h)⟩
  obtain ⟨t2, a1, b1⟩ := kk v η' hp ws' T'.heap (locs ++ L) lsA hi (by rw [e1]; exact hP') (hD'.weaken fun i q _ h => hF _ h) hS' hl T' rfl X'
  refine ⟨t2, st t2 ?_, b1⟩
  have e9 : jj_pu v rest = v.toList ++ rest := by cases v <;> rfl
  rw [e9] at a1
  exact a1
/-- a callee's start, in the caller's world -/
theorem jj_pre {s : State} {A : Nat → Prop} {D : va_G} {tyc : Nat → ClassId} {ws : va_W} {H : Heap} {locs : List Loc} {as : List Value} (hP : va_P D vwCl (jj_ws tyc ws) H) (hD : va_D A (jj_ws tyc ws)) (hS : va_S A s.heap H locs) (hA : ∀ q, s.heap.size ≤ q → A q) (hK : va_K D vwCl (jj_tys tyc) s) (hW : jj_W A s) :
    PreS s H (va_Pc as (jj_B D tyc ws H.size)) as := by
  have hF : ∀ q, va_A (jj_ws tyc ws) H.size q → A q := by
    intro q hq
    rcases hq with ⟨i, e, h⟩ | h
    · exact hD.2 i (q, e) h
    · exact hA q (Nat.le_trans hS.1 h)
  refine ⟨jj_B.blind, fun U hU hW9 => ⟨rfl, by rw [hU], by rw [hU]; exact hP, va_K.moved hW9.alike hK, hD.weaken (fun _ _ _ _ => trivial), hW.go hW9 (fun a h1 h2 => by rw [hU]; exact hS.2.1 a h1 h2) hF⟩⟩
theorem jj_cl (c : Nat) (q : vw_C) (h : vwCl[c]? = some q) : (∀ w ∈ u_ws q.1 q.2.1 q.2.2, w ∈ jj_G) ∧ (∀ j, j < q.2.2 → parseFieldDescriptor (q.2.1 j).2.2.1 = some (jj_ft c j)) ∧ (∀ a, a < q.2.2 → ∀ b, b < q.2.2 → a ≠ b → (q.2.1 a).2.1 ≠ (q.2.1 b).2.1) ∧ (∀ j, j < q.2.2 → defaultValue (jj_ft c j) = vp_V (jj_def c) j) ∧ (jj_def c).length = q.2.2 := by
  match c, h with
  | 0, h => cases h; exact ⟨inlX0, tyX0_ok, nmX0, by decide +kernel, rfl⟩
  | 1, h => cases h; exact ⟨inlX1, tyX1_ok, nmX1, by decide +kernel, rfl⟩
  | 2, h => cases h; exact ⟨inlX2, tyX2_ok, nmX2, by decide +kernel, rfl⟩
  | 3, h => cases h; exact ⟨inlX3, tyX3_ok, nmX3, by decide +kernel, rfl⟩
  | 4, h => cases h; exact ⟨inlX4, tyX4_ok, nmX4, by decide +kernel, rfl⟩
  | 5, h => cases h; exact ⟨inlX5, tyX5_ok, nmX5, by decide +kernel, rfl⟩
  | 6, h => cases h; exact ⟨inlX6, tyX6_ok, nmX6, by decide +kernel, rfl⟩
  | 7, h => cases h; exact ⟨inlX7, tyX7_ok, nmX7, by decide +kernel, rfl⟩
  | c + 8, h => simp [vwCl] at h
theorem jj_tys_at (tyc : Nat → ClassId) (t : Nat) (ht : t < 8) : (jj_tys tyc)[t]? = some (tyc t, jj_ty t) := by
  match t, ht with
  | 0, _ => rfl
  | 1, _ => rfl
  | 2, _ => rfl
  | 3, _ => rfl
  | 4, _ => rfl
  | 5, _ => rfl
  | 6, _ => rfl
  | 7, _ => rfl
theorem jj_ty_obj (t : Nat) (h3 : 3 ≤ t) (h8 : t < 8) : jj_ty t = .object (jj_tn t) ∧ ∃ q, vwCl[jj_tc t]? = some q ∧ q.1 = jj_tn t := by
  match t, h3, h8 with
  | 3, _, _ => exact ⟨rfl, _, rfl, rfl⟩
  | 4, _, _ => exact ⟨rfl, _, rfl, rfl⟩
  | 5, _, _ => exact ⟨rfl, _, rfl, rfl⟩
  | 6, _, _ => exact ⟨rfl, _, rfl, rfl⟩
  | 7, _, _ => exact ⟨rfl, _, rfl, rfl⟩
/-- the class of a new array is the one that the walk has -/
theorem jj_same {D : va_G} {tyc : Nat → ClassId} {s : State} {cA : ClassId} {t : Nat} (ht : t < 8) (hK : va_K D vwCl (jj_tys tyc) s) (h : va_K D vwCl (jj_tys tyc ++ [(cA, jj_ty t)]) s) : cA = tyc t := by
  have h1 := (hK.2 t _ (jj_tys_at tyc t ht)).2
  have h2 := (h.2 8 (cA, jj_ty t) rfl).2
  have fin : ∀ ty : FieldType, va_RA s (tyc t) ty → va_RA s cA ty → cA = tyc t := by
    intro ty g1 g2
    cases ty with
    | object C =>
      obtain ⟨_, _, -, -, -, g1⟩ := g1
      obtain ⟨_, _, -, -, -, g2⟩ := g2
      exact Option.some.inj (g2.symm.trans g1)
    | _ => exact Option.some.inj (Eq.symm (Eq.trans (Eq.symm g1) g2))
  exact fin _ h1 h2
theorem jj_wid {p : Program} {l : Launch} {e : Env} {R : Room} {s : State} {m : MethodId} {args : Array Value} {below : List Frame} {meth : Method} {c : Code} {H : Heap} {locs : List Loc} {k n : Nat} {Qc : Array Value → State → Outcome → State → Prop} {XC : String → State → State → Prop} {free : Addr → Prop} {g : JFrame} (hk : k ≤ R.cells) (hn : n ≤ R.slots) (h : W p l e R s m args below meth c H locs R.cells R.slots (MQ below Qc args s R.cells R.slots free) g) : W p l e R s m args below meth c H locs k n (vx_MQ below Qc XC args s R.cells R.slots free) g := vx_ret (W.widen hk hn h)
